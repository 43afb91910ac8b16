theorem w_869 : Cond.methodLink "HeartPinsModel" 118 ⟨"HeartPinsModel", "begin", "()V"⟩ ∈ wT := mT 869 (by decide +kernel) rfl
theorem w_873 : Cond.methodLink "HeartPinsModel" 105 ⟨"HeartPinsModel", "tellHeart", "(III)V"⟩ ∈ wT := mT 873 (by decide +kernel) rfl
theorem w_877 : Cond.methodLink "HeartPinsModel" 127 ⟨"HeartPinsModel", "tellPerson", "(I)V"⟩ ∈ wT := mT 877 (by decide +kernel) rfl
theorem w_881 : Cond.methodLink "HeartPinsModel" 130 ⟨"HeartPinsModel", "tellPin", "(III)V"⟩ ∈ wT := mT 881 (by decide +kernel) rfl
theorem w_885 : Cond.methodLink "HeartPinsModel" 71 ⟨"HeartPinsModel", "takeDraft", "()V"⟩ ∈ wT := mT 885 (by decide +kernel) rfl
theorem w_889 : Cond.fieldLink "HeartPinsModel" 7 "HeartPinsModel" "text" "[B" ∈ wT := mT 889 (by decide +kernel) rfl
theorem w_890 : Cond.fieldLink "HeartPinsModel" 78 "HeartPinsModel" "typed" "I" ∈ wT := mT 890 (by decide +kernel) rfl
theorem w_891 : Cond.fieldLink "HeartPinsModel" 13 "HeartPinsModel" "people" "[I" ∈ wT := mT 891 (by decide +kernel) rfl
theorem w_892 : Cond.fieldLink "HeartPinsModel" 17 "HeartPinsModel" "pins" "[I" ∈ wT := mT 892 (by decide +kernel) rfl
theorem w_893 : Cond.fieldLink "HeartPinsModel" 20 "HeartPinsModel" "heart" "[I" ∈ wT := mT 893 (by decide +kernel) rfl
theorem w_894 : Cond.fieldLink "HeartPinsModel" 23 "HeartPinsModel" "can" "[I" ∈ wT := mT 894 (by decide +kernel) rfl
theorem w_895 : Cond.fieldLink "HeartPinsModel" 26 "HeartPinsModel" "whose" "[I" ∈ wT := mT 895 (by decide +kernel) rfl
theorem w_896 : Cond.fieldLink "HeartPinsModel" 29 "HeartPinsModel" "kind" "[I" ∈ wT := mT 896 (by decide +kernel) rfl
theorem w_897 : Cond.fieldLink "HeartPinsModel" 32 "HeartPinsModel" "large" "[I" ∈ wT := mT 897 (by decide +kernel) rfl
theorem w_898 : Cond.fieldLink "HeartPinsModel" 82 "HeartPinsModel" "at" "I" ∈ wT := mT 898 (by decide +kernel) rfl
theorem w_899 : Cond.fieldLink "HeartPinsModel" 89 "HeartPinsModel" "isWrong" "Z" ∈ wT := mT 899 (by decide +kernel) rfl
theorem w_900 : Cond.fieldLink "HeartPinsModel" 35 "HeartPinsModel" "now" "[I" ∈ wT := mT 900 (by decide +kernel) rfl
theorem w_901 : Cond.fieldLink "HeartPinsModel" 38 "HeartPinsModel" "before" "[I" ∈ wT := mT 901 (by decide +kernel) rfl
theorem w_902 : Cond.fieldLink "HeartPinsModel" 133 "HeartPinsModel" "many" "I" ∈ wT := mT 902 (by decide +kernel) rfl
theorem w_903 : Cond.fieldLink "HeartPinsModel" 41 "HeartPinsModel" "store" "[I" ∈ wT := mT 903 (by decide +kernel) rfl
theorem w_904 : Cond.fieldLink "HeartPinsModel" 136 "HeartPinsModel" "kept" "I" ∈ wT := mT 904 (by decide +kernel) rfl
theorem w_905 : Cond.fieldLink "HeartPinsModel" 44 "HeartPinsModel" "tried" "[I" ∈ wT := mT 905 (by decide +kernel) rfl
theorem w_906 : Cond.fieldLink "HeartPinsModel" 47 "HeartPinsModel" "borne" "[I" ∈ wT := mT 906 (by decide +kernel) rfl
theorem w_907 : Cond.fieldLink "HeartPinsModel" 50 "HeartPinsModel" "least" "[I" ∈ wT := mT 907 (by decide +kernel) rfl
theorem w_908 : Cond.fieldLink "HeartPinsModel" 53 "HeartPinsModel" "sightOf" "[I" ∈ wT := mT 908 (by decide +kernel) rfl
theorem w_909 : Cond.fieldLink "HeartPinsModel" 56 "HeartPinsModel" "sightBy" "[I" ∈ wT := mT 909 (by decide +kernel) rfl
theorem w_910 : Cond.fieldLink "HeartPinsModel" 59 "HeartPinsModel" "sightIs" "[I" ∈ wT := mT 910 (by decide +kernel) rfl
theorem w_911 : Cond.fieldLink "HeartPinsModel" 139 "HeartPinsModel" "sights" "I" ∈ wT := mT 911 (by decide +kernel) rfl
theorem w_912 : Cond.fieldLink "HeartPinsModel" 62 "HeartPinsModel" "marked" "[I" ∈ wT := mT 912 (by decide +kernel) rfl
theorem w_913 : Cond.fieldLink "HeartPinsModel" 142 "HeartPinsModel" "marks" "I" ∈ wT := mT 913 (by decide +kernel) rfl
theorem w_914 : Cond.fieldLink "HeartPinsModel" 65 "HeartPinsModel" "waysBy" "[I" ∈ wT := mT 914 (by decide +kernel) rfl
theorem w_972 : Cond.methodLink "HeartPinsModel" 74 ⟨"HeartPinsModel", "in", "(III)Z"⟩ ∈ wT := mT 972 (by decide +kernel) rfl
theorem w_983 : Cond.methodLink "HeartPinsModel" 124 ⟨"HeartPinsModel", "read", "()I"⟩ ∈ wT := mT 983 (by decide +kernel) rfl
theorem w_987 : Cond.methodLink "HeartPinsModel" 121 ⟨"HeartPinsModel", "readItem", "()V"⟩ ∈ wT := mT 987 (by decide +kernel) rfl
theorem w_991 : Cond.methodLink "HeartPinsModel" 85 ⟨"HeartPinsModel", "here", "()I"⟩ ∈ wT := mT 991 (by decide +kernel) rfl
theorem w_995 : Cond.methodLink "HeartPinsModel" 109 ⟨"HeartPinsModel", "readPerson", "()V"⟩ ∈ wT := mT 995 (by decide +kernel) rfl
theorem w_999 : Cond.methodLink "HeartPinsModel" 97 ⟨"HeartPinsModel", "number", "(II)I"⟩ ∈ wT := mT 999 (by decide +kernel) rfl
theorem w_1003 : Cond.methodLink "HeartPinsModel" 93 ⟨"HeartPinsModel", "isFigure", "()Z"⟩ ∈ wT := mT 1003 (by decide +kernel) rfl
theorem w_1007 : Cond.methodLink "HeartPinsModel" 112 ⟨"HeartPinsModel", "readPin", "()V"⟩ ∈ wT := mT 1007 (by decide +kernel) rfl
theorem w_1011 : Cond.methodLink "HeartPinsModel" 101 ⟨"HeartPinsModel", "due", "(I)V"⟩ ∈ wT := mT 1011 (by decide +kernel) rfl
theorem w_1015 : Cond.methodLink "HeartPinsModel" 115 ⟨"HeartPinsModel", "readHeart", "()V"⟩ ∈ wT := mT 1015 (by decide +kernel) rfl
theorem w_1027 : Cond.methodLink "HeartPinsModel" 174 ⟨"HeartPinsModel", "isPerson", "(I)Z"⟩ ∈ wT := mT 1027 (by decide +kernel) rfl
theorem w_1031 : Cond.methodLink "HeartPinsModel" 160 ⟨"HeartPinsModel", "load", "([II)I"⟩ ∈ wT := mT 1031 (by decide +kernel) rfl
theorem w_1035 : Cond.methodLink "HeartPinsModel" 153 ⟨"HeartPinsModel", "those", "([II)I"⟩ ∈ wT := mT 1035 (by decide +kernel) rfl
theorem w_1039 : Cond.methodLink "HeartPinsModel" 157 ⟨"HeartPinsModel", "sizeOf", "([II)I"⟩ ∈ wT := mT 1039 (by decide +kernel) rfl
theorem w_1043 : Cond.methodLink "HeartPinsModel" 149 ⟨"HeartPinsModel", "has", "(II)Z"⟩ ∈ wT := mT 1043 (by decide +kernel) rfl
theorem w_1046 : Cond.methodLink "HeartPinsModel" 163 ⟨"HeartPinsModel", "doesBreak", "([II)Z"⟩ ∈ wT := mT 1046 (by decide +kernel) rfl
theorem w_1054 : Cond.methodLink "HeartPinsModel" 178 ⟨"HeartPinsModel", "isPin", "(I)Z"⟩ ∈ wT := mT 1054 (by decide +kernel) rfl
theorem w_1058 : Cond.methodLink "HeartPinsModel" 145 ⟨"HeartPinsModel", "isBorne", "([II)Z"⟩ ∈ wT := mT 1058 (by decide +kernel) rfl
theorem w_1065 : Cond.methodLink "HeartPinsModel" 166 ⟨"HeartPinsModel", "isFull", "([I)Z"⟩ ∈ wT := mT 1065 (by decide +kernel) rfl
theorem w_1069 : Cond.methodLink "HeartPinsModel" 181 ⟨"HeartPinsModel", "isAtDoor", "([I)Z"⟩ ∈ wT := mT 1069 (by decide +kernel) rfl
theorem w_1077 : Cond.methodLink "HeartPinsModel" 184 ⟨"HeartPinsModel", "know", "()V"⟩ ∈ wT := mT 1077 (by decide +kernel) rfl
theorem w_1093 : Cond.methodLink "HeartPinsModel" 187 ⟨"HeartPinsModel", "passOn", "([I)V"⟩ ∈ wT := mT 1093 (by decide +kernel) rfl
theorem w_1097 : Cond.methodLink "HeartPinsModel" 170 ⟨"HeartPinsModel", "grown", "(III)I"⟩ ∈ wT := mT 1097 (by decide +kernel) rfl
theorem w_1108 : Cond.methodLink "HeartPinsModel" 194 ⟨"HeartPinsModel", "goOn", "(I)V"⟩ ∈ wT := mT 1108 (by decide +kernel) rfl
theorem w_1112 : Cond.methodLink "HeartPinsModel" 191 ⟨"HeartPinsModel", "take", "()V"⟩ ∈ wT := mT 1112 (by decide +kernel) rfl
theorem w_1132 : Cond.methodLink "HeartPinsModel" 201 ⟨"HeartPinsModel", "borne", "([I)I"⟩ ∈ wT := mT 1132 (by decide +kernel) rfl
theorem w_1136 : Cond.methodLink "HeartPinsModel" 203 ⟨"HeartPinsModel", "bitsOf", "(I)I"⟩ ∈ wT := mT 1136 (by decide +kernel) rfl
theorem w_1139 : Cond.methodLink "HeartPinsModel" 207 ⟨"HeartPinsModel", "isWellBy", "(II)Z"⟩ ∈ wT := mT 1139 (by decide +kernel) rfl
theorem w_1143 : Cond.methodLink "HeartPinsModel" 197 ⟨"HeartPinsModel", "broken", "([I)I"⟩ ∈ wT := mT 1143 (by decide +kernel) rfl
theorem w_1151 : Cond.methodLink "HeartPinsModel" 211 ⟨"HeartPinsModel", "leastFor", "(I)I"⟩ ∈ wT := mT 1151 (by decide +kernel) rfl
theorem w_1155 : Cond.constant "HeartPinsModel" 210 (100000 : Int32) ∈ wT := mT 1155 (by decide +kernel) rfl
theorem w_1160 : Cond.methodLink "HeartPinsModel" 214 ⟨"HeartPinsModel", "brokenWithout", "(I)I"⟩ ∈ wT := mT 1160 (by decide +kernel) rfl
theorem w_1184 : Cond.methodLink "HeartPinsModel" 217 ⟨"HeartPinsModel", "sizeBy", "(III)I"⟩ ∈ wT := mT 1184 (by decide +kernel) rfl
theorem w_1192 : Cond.methodLink "HeartPinsModel" 220 ⟨"HeartPinsModel", "tellWays", "(II)V"⟩ ∈ wT := mT 1192 (by decide +kernel) rfl
theorem w_1200 : Cond.methodLink "HeartPinsModel" 224 ⟨"HeartPinsModel", "breaksBy", "(III)Z"⟩ ∈ wT := mT 1200 (by decide +kernel) rfl
theorem w_1208 : Cond.constantLong "HeartPinsModel" 227 (7919 : Int64) ∈ wT := mT 1208 (by decide +kernel) rfl
theorem w_1209 : Cond.constantLong "HeartPinsModel" 229 (6151 : Int64) ∈ wT := mT 1209 (by decide +kernel) rfl
theorem w_1210 : Cond.constantLong "HeartPinsModel" 231 (65521 : Int64) ∈ wT := mT 1210 (by decide +kernel) rfl
theorem w_1211 : Cond.methodLink "HeartPinsModel" 233 ⟨"HeartPinsModel", "turn", "(I)V"⟩ ∈ wT := mT 1211 (by decide +kernel) rfl
theorem dX9_in_0 : decode cX9_in 0 = .ok (.iload_n 0, 1) := by decide +kernel
theorem dX9_in_1 : decode cX9_in 1 = .ok (.iload_n 1, 1) := by decide +kernel
theorem dX9_in_2 : decode cX9_in 2 = .ok (.if_icmp .lt 12, 3) := by decide +kernel
theorem dX9_in_5 : decode cX9_in 5 = .ok (.iload_n 0, 1) := by decide +kernel
theorem dX9_in_6 : decode cX9_in 6 = .ok (.iload_n 2, 1) := by decide +kernel
theorem dX9_in_7 : decode cX9_in 7 = .ok (.if_icmp .gt 7, 3) := by decide +kernel
theorem dX9_in_10 : decode cX9_in 10 = .ok (.iconst 1, 1) := by decide +kernel
theorem dX9_in_11 : decode cX9_in 11 = .ok (.goto 4, 3) := by decide +kernel
theorem dX9_in_14 : decode cX9_in 14 = .ok (.iconst 0, 1) := by decide +kernel
theorem dX9_in_15 : decode cX9_in 15 = .ok (.ireturn, 1) := by decide +kernel
def f_M_in (N nx : Nat) (D : Dt) (P : Ft) (i0 : Int32) (i1 : Int32) (i2 : Int32) : Option Int32 :=
  if i0 < i1 then
    some 0
  else
    if i2 < i0 then
      some 0
    else
      some 1
theorem m_M_in : MS yX9_in cX9_in 3 (some .boolean) 3 := ⟨mT 974 (by decide +kernel) rfl, mT 973 (by decide +kernel) rfl, mT 68 (by decide +kernel) rfl, by decide +kernel, by decide +kernel, by decide +kernel⟩
set_option maxHeartbeats 4000000 in
set_option maxRecDepth 100000 in
theorem c_M_in (l : Launch) (cx : Cx) (nx N : Nat) (D : Dt) (P : Ft) (i0 : Int32) (i1 : Int32) (i2 : Int32) (z : Int32) (h : f_M_in N nx D P i0 i1 i2 = some z) : Ct l cx yX9_in cX9_in 3 (some .boolean) 0 [.int i0, .int i1, .int i2] D P nx (some (.int z)) D P := by
  refine x_met0 (by decide) (Nat.le_of_ble_eq_true rfl) ?_
  intro p e s m args below meth c X
  have X : XC p s m args meth c cx cX9_in 3 (some .boolean) "HeartPinsModel" "in" := X
  refine XW.sub (lv' := [(0, .int i0), (1, .int i1), (2, .int i2)]) [0, 1, 2] rfl ?_
  unfold f_M_in at h
  refine x_iload_n (pc := 0) X dX9_in_0 (i := 0) rfl 0 rfl ?_
  refine x_iload_n (pc := 1) X dX9_in_1 (i := 1) rfl 1 rfl ?_
  refine x_icmp_lt (tgt := 14) (pc := 2) X dX9_in_2 (by decide) (fun c2 => ?_) (fun c2 => ?_)
  · have h := ite_t c2 h
    refine x_iconst (v := 0) (pc := 14) X dX9_in_14 (by decide) ?_
    obtain rfl := Option.some.inj h
    exact x_zret (pc := 15) X dX9_in_15 (Or.inl rfl)
  · have h := ite_f c2 h
    refine x_iload_n (pc := 5) X dX9_in_5 (i := 0) rfl 0 rfl ?_
    refine x_iload_n (pc := 6) X dX9_in_6 (i := 2) rfl 2 rfl ?_
    refine x_icmp_gt (tgt := 14) (pc := 7) X dX9_in_7 (by decide) (fun c1 => ?_) (fun c1 => ?_)
    · have h := ite_t c1 h
      refine x_iconst (v := 0) (pc := 14) X dX9_in_14 (by decide) ?_
      obtain rfl := Option.some.inj h
      exact x_zret (pc := 15) X dX9_in_15 (Or.inl rfl)
    · have h := ite_f c1 h
      refine x_iconst (v := 1) (pc := 10) X dX9_in_10 (by decide) ?_
      refine x_goto (tgt := 15) (pc := 11) X dX9_in_11 (by decide) ?_
      obtain rfl := Option.some.inj h
      exact x_zret (pc := 15) X dX9_in_15 (Or.inr rfl)
theorem dX9_has_0 : decode cX9_has 0 = .ok (.iload_n 0, 1) := by decide +kernel
theorem dX9_has_1 : decode cX9_has 1 = .ok (.iload_n 1, 1) := by decide +kernel
theorem dX9_has_2 : decode cX9_has 2 = .ok (.ishr, 1) := by decide +kernel
theorem dX9_has_3 : decode cX9_has 3 = .ok (.iconst 1, 1) := by decide +kernel
theorem dX9_has_4 : decode cX9_has 4 = .ok (.iand, 1) := by decide +kernel
theorem dX9_has_5 : decode cX9_has 5 = .ok (.iconst 1, 1) := by decide +kernel
theorem dX9_has_6 : decode cX9_has 6 = .ok (.if_icmp .ne 7, 3) := by decide +kernel
theorem dX9_has_9 : decode cX9_has 9 = .ok (.iconst 1, 1) := by decide +kernel
theorem dX9_has_10 : decode cX9_has 10 = .ok (.goto 4, 3) := by decide +kernel
theorem dX9_has_13 : decode cX9_has 13 = .ok (.iconst 0, 1) := by decide +kernel
theorem dX9_has_14 : decode cX9_has 14 = .ok (.ireturn, 1) := by decide +kernel
def f_M_has (N nx : Nat) (D : Dt) (P : Ft) (i0 : Int32) (i1 : Int32) : Option Int32 :=
  if (i0 >>> (i1 &&& 31)) &&& 1 = 1 then
    some 1
  else
    some 0
theorem m_M_has : MS yX9_has cX9_has 2 (some .boolean) 2 := ⟨mT 1045 (by decide +kernel) rfl, mT 1044 (by decide +kernel) rfl, mT 68 (by decide +kernel) rfl, by decide +kernel, by decide +kernel, by decide +kernel⟩
set_option maxHeartbeats 4000000 in
set_option maxRecDepth 100000 in
theorem c_M_has (l : Launch) (cx : Cx) (nx N : Nat) (D : Dt) (P : Ft) (i0 : Int32) (i1 : Int32) (z : Int32) (h : f_M_has N nx D P i0 i1 = some z) : Ct l cx yX9_has cX9_has 2 (some .boolean) 0 [.int i0, .int i1] D P nx (some (.int z)) D P := by
  refine x_met0 (by decide) (Nat.le_of_ble_eq_true rfl) ?_
  intro p e s m args below meth c X
  have X : XC p s m args meth c cx cX9_has 2 (some .boolean) "HeartPinsModel" "has" := X
  refine XW.sub (lv' := [(0, .int i0), (1, .int i1)]) [0, 1] rfl ?_
  unfold f_M_has at h
  refine x_iload_n (pc := 0) X dX9_has_0 (i := 0) rfl 0 rfl ?_
  refine x_iload_n (pc := 1) X dX9_has_1 (i := 1) rfl 1 rfl ?_
  refine x_ishr (pc := 2) X dX9_has_2 ?_
  refine x_iconst (v := 1) (pc := 3) X dX9_has_3 (by decide) ?_
  refine x_iand (pc := 4) X dX9_has_4 ?_
  refine x_iconst (v := 1) (pc := 5) X dX9_has_5 (by decide) ?_
  refine x_icmp_ne (tgt := 13) (pc := 6) X dX9_has_6 (by decide) (fun c1 => ?_) (fun c1 => ?_)
  · have h := ite_f c1 h
    refine x_iconst (v := 0) (pc := 13) X dX9_has_13 (by decide) ?_
    obtain rfl := Option.some.inj h
    exact x_zret (pc := 14) X dX9_has_14 (Or.inl rfl)
  · have h := ite_t c1 h
    refine x_iconst (v := 1) (pc := 9) X dX9_has_9 (by decide) ?_
    refine x_goto (tgt := 14) (pc := 10) X dX9_has_10 (by decide) ?_
    obtain rfl := Option.some.inj h
    exact x_zret (pc := 14) X dX9_has_14 (Or.inr rfl)
theorem dX9_bitsOf_0 : decode cX9_bitsOf 0 = .ok (.iconst 0, 1) := by decide +kernel
theorem dX9_bitsOf_1 : decode cX9_bitsOf 1 = .ok (.istore_n 1, 1) := by decide +kernel
theorem dX9_bitsOf_2 : decode cX9_bitsOf 2 = .ok (.iconst 0, 1) := by decide +kernel
theorem dX9_bitsOf_3 : decode cX9_bitsOf 3 = .ok (.istore_n 2, 1) := by decide +kernel
theorem dX9_bitsOf_4 : decode cX9_bitsOf 4 = .ok (.iload_n 2, 1) := by decide +kernel
theorem dX9_bitsOf_5 : decode cX9_bitsOf 5 = .ok (.bipush 8, 2) := by decide +kernel
theorem dX9_bitsOf_7 : decode cX9_bitsOf 7 = .ok (.if_icmp .ge 17, 3) := by decide +kernel
theorem dX9_bitsOf_10 : decode cX9_bitsOf 10 = .ok (.iload_n 1, 1) := by decide +kernel
theorem dX9_bitsOf_11 : decode cX9_bitsOf 11 = .ok (.iload_n 0, 1) := by decide +kernel
theorem dX9_bitsOf_12 : decode cX9_bitsOf 12 = .ok (.iload_n 2, 1) := by decide +kernel
theorem dX9_bitsOf_13 : decode cX9_bitsOf 13 = .ok (.ishr, 1) := by decide +kernel
theorem dX9_bitsOf_14 : decode cX9_bitsOf 14 = .ok (.iconst 1, 1) := by decide +kernel
theorem dX9_bitsOf_15 : decode cX9_bitsOf 15 = .ok (.iand, 1) := by decide +kernel
theorem dX9_bitsOf_16 : decode cX9_bitsOf 16 = .ok (.iadd, 1) := by decide +kernel
theorem dX9_bitsOf_17 : decode cX9_bitsOf 17 = .ok (.istore_n 1, 1) := by decide +kernel
theorem dX9_bitsOf_18 : decode cX9_bitsOf 18 = .ok (.iinc 2 1, 3) := by decide +kernel
theorem dX9_bitsOf_21 : decode cX9_bitsOf 21 = .ok (.goto (-17), 3) := by decide +kernel
theorem dX9_bitsOf_24 : decode cX9_bitsOf 24 = .ok (.iload_n 1, 1) := by decide +kernel
theorem dX9_bitsOf_25 : decode cX9_bitsOf 25 = .ok (.ireturn, 1) := by decide +kernel
def f_M_bitsOf_4 (N nx : Nat) (D : Dt) (P : Ft) (i0 : Int32) (rec4 : Int32 → Int32 → Option Int32) (i1 : Int32) (i2 : Int32) : Option Int32 :=
  if 8 ≤ i2 then
    some i1
  else
    rec4 (i1 + ((i0 >>> (i2 &&& 31)) &&& 1)) (i2 + 1)
def f_M_bitsOf (N nx : Nat) (D : Dt) (P : Ft) (i0 : Int32) : Option Int32 :=
  wk2 N (f_M_bitsOf_4 N nx D P i0) 0 0
theorem m_M_bitsOf : MS yX9_bitsOf cX9_bitsOf 3 (some .int) 1 := ⟨mT 1138 (by decide +kernel) rfl, mT 1137 (by decide +kernel) rfl, mT 68 (by decide +kernel) rfl, by decide +kernel, by decide +kernel, by decide +kernel⟩
set_option maxHeartbeats 4000000 in
set_option maxRecDepth 100000 in
theorem c_M_bitsOf (l : Launch) (cx : Cx) (nx N : Nat) (D : Dt) (P : Ft) (i0 : Int32) (z : Int32) (h : f_M_bitsOf N nx D P i0 = some z) : Ct l cx yX9_bitsOf cX9_bitsOf 3 (some .int) 0 [.int i0] D P nx (some (.int z)) D P := by
  refine x_met0 (by decide) (Nat.le_of_ble_eq_true rfl) ?_
  intro p e s m args below meth c X
  have X : XC p s m args meth c cx cX9_bitsOf 3 (some .int) "HeartPinsModel" "bitsOf" := X
  refine XW.sub (lv' := [(0, .int i0)]) [0] rfl ?_
  unfold f_M_bitsOf at h
  have hL4 : ∀ (n : Nat) (i1 : Int32) (i2 : Int32), wk2 n (f_M_bitsOf_4 N nx D P i0) i1 i2 = some z → XW p l e (rmk 0) s m args below meth c (MQ below (Qx cx (some (.int z)) D P nx) args s 0 0 (AA cx)) cx 3 D P nx 0 0 4 [(0, .int i0), (1, .int i1), (2, .int i2)] [] := by
    intro n
    induction n with
    | zero => intro i1 i2 h; exact (nonz h).elim
    | succ n ih4 =>
      intro i1 i2 h
      have h : f_M_bitsOf_4 N nx D P i0 (wk2 n (f_M_bitsOf_4 N nx D P i0)) i1 i2 = some z := h
      generalize wk2 n (f_M_bitsOf_4 N nx D P i0) = rec4 at ih4 h
      unfold f_M_bitsOf_4 at h
      refine x_iload_n (pc := 4) X dX9_bitsOf_4 (i := 2) rfl 2 rfl ?_
      refine x_bipush (v := 8) (pc := 5) X dX9_bitsOf_5 (by decide) ?_
      refine x_icmp_ge (tgt := 24) (pc := 7) X dX9_bitsOf_7 (by decide) (fun c1 => ?_) (fun c1 => ?_)
      · have h := ite_t c1 h
        refine x_iload_n (pc := 24) X dX9_bitsOf_24 (i := 1) rfl 1 rfl ?_
        obtain rfl := Option.some.inj h
        exact x_iret (pc := 25) X dX9_bitsOf_25
      · have h := ite_f c1 h
        refine x_iload_n (pc := 10) X dX9_bitsOf_10 (i := 1) rfl 1 rfl ?_
        refine x_iload_n (pc := 11) X dX9_bitsOf_11 (i := 0) rfl 0 rfl ?_
        refine x_iload_n (pc := 12) X dX9_bitsOf_12 (i := 2) rfl 2 rfl ?_
        refine x_ishr (pc := 13) X dX9_bitsOf_13 ?_
        refine x_iconst (v := 1) (pc := 14) X dX9_bitsOf_14 (by decide) ?_
        refine x_iand (pc := 15) X dX9_bitsOf_15 ?_
        refine x_iadd (pc := 16) X dX9_bitsOf_16 ?_
        refine x_istore_n (lv' := [(1, .int (i1 + ((i0 >>> (i2 &&& 31)) &&& 1))), (0, .int i0), (2, .int i2)]) (pc := 17) X dX9_bitsOf_17 (i := 1) rfl (by decide) rfl ?_
        refine x_iinc (v := i2 + 1) (lv' := [(2, .int (i2 + 1)), (1, .int (i1 + ((i0 >>> (i2 &&& 31)) &&& 1))), (0, .int i0)]) (pc := 18) X dX9_bitsOf_18 2 rfl rfl (by decide) rfl ?_
        refine x_goto (tgt := 4) (pc := 21) X dX9_bitsOf_21 (by decide) ?_
        exact XW.sub [2, 1, 0] rfl (ih4 _ _ h)
  refine x_iconst (v := 0) (pc := 0) X dX9_bitsOf_0 (by decide) ?_
  refine x_istore_n (lv' := [(1, .int 0), (0, .int i0)]) (pc := 1) X dX9_bitsOf_1 (i := 1) rfl (by decide) rfl ?_
  refine x_iconst (v := 0) (pc := 2) X dX9_bitsOf_2 (by decide) ?_
  refine x_istore_n (lv' := [(2, .int 0), (1, .int 0), (0, .int i0)]) (pc := 3) X dX9_bitsOf_3 (i := 2) rfl (by decide) rfl ?_
  exact XW.sub [2, 1, 0] rfl (hL4 _ _ _ h)
theorem dX9_write_0 : decode cX9_write 0 = .ok (.iload_n 1, 1) := by decide +kernel
theorem dX9_write_1 : decode cX9_write 1 = .ok (.bipush 32, 2) := by decide +kernel
theorem dX9_write_3 : decode cX9_write 3 = .ok (.bipush 126, 2) := by decide +kernel
theorem dX9_write_5 : decode cX9_write 5 = .ok (.invokestatic 74, 3) := by decide +kernel
theorem dX9_write_8 : decode cX9_write 8 = .ok (.ifCond .ne 5, 3) := by decide +kernel
theorem dX9_write_11 : decode cX9_write 11 = .ok (.iconst (-1), 1) := by decide +kernel
theorem dX9_write_12 : decode cX9_write 12 = .ok (.ireturn, 1) := by decide +kernel
theorem dX9_write_13 : decode cX9_write 13 = .ok (.aload_n 0, 1) := by decide +kernel
theorem dX9_write_14 : decode cX9_write 14 = .ok (.getfield 78, 3) := by decide +kernel
theorem dX9_write_17 : decode cX9_write 17 = .ok (.sipush 200, 3) := by decide +kernel
theorem dX9_write_20 : decode cX9_write 20 = .ok (.if_icmp .ne 6, 3) := by decide +kernel
theorem dX9_write_23 : decode cX9_write 23 = .ok (.bipush (-3), 2) := by decide +kernel
theorem dX9_write_25 : decode cX9_write 25 = .ok (.ireturn, 1) := by decide +kernel
theorem dX9_write_26 : decode cX9_write 26 = .ok (.aload_n 0, 1) := by decide +kernel
theorem dX9_write_27 : decode cX9_write 27 = .ok (.getfield 7, 3) := by decide +kernel
theorem dX9_write_30 : decode cX9_write 30 = .ok (.aload_n 0, 1) := by decide +kernel
theorem dX9_write_31 : decode cX9_write 31 = .ok (.getfield 78, 3) := by decide +kernel
theorem dX9_write_34 : decode cX9_write 34 = .ok (.iload_n 1, 1) := by decide +kernel
theorem dX9_write_35 : decode cX9_write 35 = .ok (.i2b, 1) := by decide +kernel
theorem dX9_write_36 : decode cX9_write 36 = .ok (.bastore, 1) := by decide +kernel
theorem dX9_write_37 : decode cX9_write 37 = .ok (.aload_n 0, 1) := by decide +kernel
theorem dX9_write_38 : decode cX9_write 38 = .ok (.dup, 1) := by decide +kernel
theorem dX9_write_39 : decode cX9_write 39 = .ok (.getfield 78, 3) := by decide +kernel
theorem dX9_write_42 : decode cX9_write 42 = .ok (.iconst 1, 1) := by decide +kernel
theorem dX9_write_43 : decode cX9_write 43 = .ok (.iadd, 1) := by decide +kernel
theorem dX9_write_44 : decode cX9_write 44 = .ok (.putfield 78, 3) := by decide +kernel
theorem dX9_write_47 : decode cX9_write 47 = .ok (.aload_n 0, 1) := by decide +kernel
theorem dX9_write_48 : decode cX9_write 48 = .ok (.getfield 78, 3) := by decide +kernel
theorem dX9_write_51 : decode cX9_write 51 = .ok (.ireturn, 1) := by decide +kernel
def f_M_write (N nx : Nat) (D : Dt) (P : Ft) (a0 : Nat) (i1 : Int32) : Option (Int32 × Dt) :=
  if kd nx a0 = 9 then
  (f_M_in N nx D P i1 32 126).bind fun z1 =>
  if z1 = 0 then
    some ((-1), D)
  else
    if D a0 1 = 200 then
      some ((-3), D)
    else
      nn (P a0 0) fun q2 =>
      if ab nx q2 1 (D a0 1) = true then
      pas (upd2 D q2 (D a0 1).toNatClampNeg (vp_nar .byte ((Int32.toInt8 i1).toInt32))) fun D3 =>
      pas (upd2 D3 a0 1 ((D3 a0 1) + 1)) fun D4 =>
      some (D4 a0 1, D4)
      else none
  else none
theorem m_M_write : MV yX9_write cX9_write 2 (some .int) 1 := ⟨mT 971 (by decide +kernel) rfl, mT 969 (by decide +kernel) rfl, mT 970 (by decide +kernel) rfl, mT 68 (by decide +kernel) rfl, by decide +kernel, by decide +kernel, by decide +kernel⟩
set_option maxHeartbeats 4000000 in
set_option maxRecDepth 100000 in
theorem c_M_write (l : Launch) (cx : Cx) (nx N : Nat) (D : Dt) (P : Ft) (a0 : Nat) (i1 : Int32) (z : Int32 × Dt) (h : f_M_write N nx D P a0 i1 = some z) : Ct l cx yX9_write cX9_write 2 (some .int) 1 [.ref (cx.2.2 + a0), .int i1] D P nx (some (.int z.1)) z.2 P := by
  refine x_met0 (by decide) (Nat.le_of_ble_eq_true rfl) ?_
  intro p e s m args below meth c X
  have X : XC p s m args meth c cx cX9_write 2 (some .int) "HeartPinsModel" "write" := X
  refine XW.sub (lv' := [(0, .ref (cx.2.2 + a0)), (1, .int i1)]) [0, 1] rfl ?_
  unfold f_M_write at h
  obtain ⟨hk0, h⟩ := grd h
  refine x_iload_n (pc := 0) X dX9_write_0 (i := 1) rfl 1 rfl ?_
  refine x_bipush (v := 32) (pc := 1) X dX9_write_1 (by decide) ?_
  refine x_bipush (v := 126) (pc := 3) X dX9_write_3 (by decide) ?_
  obtain ⟨z1, e1, h⟩ := bnds h
  refine x_callS (pc := 5) (As := [.int i1, .int 32, .int 126]) (st := []) (st' := [.int z1]) X (c_M_in l cx nx N D P _ _ _ z1 e1) dX9_write_5 w_972 m_M_in rfl ⟨by decide, by decide⟩ ⟨Nat.zero_le _, Nat.zero_le _⟩ rfl (Nat.le_of_ble_eq_true rfl) rfl ?_
  refine x_if_ne (tgt := 13) (pc := 8) X dX9_write_8 (by decide) (fun c6 => ?_) (fun c6 => ?_)
  · have h := ite_f c6 h
    refine x_aload_n (pc := 13) X dX9_write_13 (i := 0) rfl 0 rfl ?_
    refine x_geti (ci := 9) (k := 1) (n := 26) (C := RX9) (T := TX9) (pc := 14) X dX9_write_14 hk0 rfl (by decide) w_890 rfl ?_
    refine x_sipush (v := 200) (pc := 17) X dX9_write_17 (by decide) ?_
    refine x_icmp_ne (tgt := 26) (pc := 20) X dX9_write_20 (by decide) (fun c5 => ?_) (fun c5 => ?_)
    · have h := ite_f c5 h
      refine x_aload_n (pc := 26) X dX9_write_26 (i := 0) rfl 0 rfl ?_
      obtain ⟨q2, e2, h⟩ := nns h
      refine x_getr (ci := 9) (k := 0) (n := 26) (C := RX9) (T := TX9) (pc := 27) X dX9_write_27 hk0 rfl (by decide) w_889 rfl e2 ?_
      refine x_aload_n (pc := 30) X dX9_write_30 (i := 0) rfl 0 rfl ?_
      refine x_geti (ci := 9) (k := 1) (n := 26) (C := RX9) (T := TX9) (pc := 31) X dX9_write_31 hk0 rfl (by decide) w_890 rfl ?_
      refine x_iload_n (pc := 34) X dX9_write_34 (i := 1) rfl 1 rfl ?_
      refine x_i2b (pc := 35) X dX9_write_35 ?_
      obtain ⟨g3, h⟩ := grd h
      obtain ⟨D3, w3, h⟩ := pass h
      refine x_bast (D' := D3) (pc := 36) X dX9_write_36 g3 w3 ?_
      refine x_aload_n (pc := 37) X dX9_write_37 (i := 0) rfl 0 rfl ?_
      refine x_dup (pc := 38) X dX9_write_38 rfl ?_
      refine x_geti (ci := 9) (k := 1) (n := 26) (C := RX9) (T := TX9) (pc := 39) X dX9_write_39 hk0 rfl (by decide) w_890 rfl ?_
      refine x_iconst (v := 1) (pc := 42) X dX9_write_42 (by decide) ?_
      refine x_iadd (pc := 43) X dX9_write_43 ?_
      obtain ⟨D4, w4, h⟩ := pass h
      refine x_puti (ci := 9) (k := 1) (n := 26) (C := RX9) (T := TX9) (D' := D4) (pc := 44) X dX9_write_44 hk0 rfl (by decide) w_890 rfl (by decide +kernel) rfl w4 ?_
      refine x_aload_n (pc := 47) X dX9_write_47 (i := 0) rfl 0 rfl ?_
      refine x_geti (ci := 9) (k := 1) (n := 26) (C := RX9) (T := TX9) (pc := 48) X dX9_write_48 hk0 rfl (by decide) w_890 rfl ?_
      obtain rfl := Option.some.inj h
      exact x_iret (pc := 51) X dX9_write_51
    · have h := ite_t c5 h
      refine x_bipush (v := (-3)) (pc := 23) X dX9_write_23 (by decide) ?_
      obtain rfl := Option.some.inj h
      exact x_iret (pc := 25) X dX9_write_25
  · have h := ite_t c6 h
    refine x_iconst (v := (-1)) (pc := 11) X dX9_write_11 (by decide) ?_
    obtain rfl := Option.some.inj h
    exact x_iret (pc := 12) X dX9_write_12
theorem dX9_wipe_0 : decode cX9_wipe 0 = .ok (.aload_n 0, 1) := by decide +kernel
theorem dX9_wipe_1 : decode cX9_wipe 1 = .ok (.getfield 78, 3) := by decide +kernel
theorem dX9_wipe_4 : decode cX9_wipe 4 = .ok (.istore_n 1, 1) := by decide +kernel
theorem dX9_wipe_5 : decode cX9_wipe 5 = .ok (.aload_n 0, 1) := by decide +kernel
theorem dX9_wipe_6 : decode cX9_wipe 6 = .ok (.iconst 0, 1) := by decide +kernel
theorem dX9_wipe_7 : decode cX9_wipe 7 = .ok (.putfield 78, 3) := by decide +kernel
theorem dX9_wipe_10 : decode cX9_wipe 10 = .ok (.iload_n 1, 1) := by decide +kernel
theorem dX9_wipe_11 : decode cX9_wipe 11 = .ok (.ireturn, 1) := by decide +kernel
def f_M_wipe (N nx : Nat) (D : Dt) (P : Ft) (a0 : Nat) : Option (Int32 × Dt) :=
  if kd nx a0 = 9 then
  pas (upd2 D a0 1 0) fun D1 =>
  some (D a0 1, D1)
  else none
theorem m_M_wipe : MV yX9_wipe cX9_wipe 2 (some .int) 0 := ⟨mT 978 (by decide +kernel) rfl, mT 976 (by decide +kernel) rfl, mT 977 (by decide +kernel) rfl, mT 68 (by decide +kernel) rfl, by decide +kernel, by decide +kernel, by decide +kernel⟩
set_option maxHeartbeats 4000000 in
set_option maxRecDepth 100000 in
theorem c_M_wipe (l : Launch) (cx : Cx) (nx N : Nat) (D : Dt) (P : Ft) (a0 : Nat) (z : Int32 × Dt) (h : f_M_wipe N nx D P a0 = some z) : Ct l cx yX9_wipe cX9_wipe 2 (some .int) 0 [.ref (cx.2.2 + a0)] D P nx (some (.int z.1)) z.2 P := by
  refine x_met0 (by decide) (Nat.le_of_ble_eq_true rfl) ?_
  intro p e s m args below meth c X
  have X : XC p s m args meth c cx cX9_wipe 2 (some .int) "HeartPinsModel" "wipe" := X
  refine XW.sub (lv' := [(0, .ref (cx.2.2 + a0))]) [0] rfl ?_
  unfold f_M_wipe at h
  obtain ⟨hk0, h⟩ := grd h
  refine x_aload_n (pc := 0) X dX9_wipe_0 (i := 0) rfl 0 rfl ?_
  refine x_geti (ci := 9) (k := 1) (n := 26) (C := RX9) (T := TX9) (pc := 1) X dX9_wipe_1 hk0 rfl (by decide) w_890 rfl ?_
  refine x_istore_n (lv' := [(1, .int (D a0 1)), (0, .ref (cx.2.2 + a0))]) (pc := 4) X dX9_wipe_4 (i := 1) rfl (by decide) rfl ?_
  refine x_aload_n (pc := 5) X dX9_wipe_5 (i := 0) rfl 1 rfl ?_
  refine x_iconst (v := 0) (pc := 6) X dX9_wipe_6 (by decide) ?_
  obtain ⟨D1, w1, h⟩ := pass h
  refine x_puti (ci := 9) (k := 1) (n := 26) (C := RX9) (T := TX9) (D' := D1) (pc := 7) X dX9_wipe_7 hk0 rfl (by decide) w_890 rfl (by decide +kernel) rfl w1 ?_
  refine x_iload_n (pc := 10) X dX9_wipe_10 (i := 1) rfl 0 rfl ?_
  obtain rfl := Option.some.inj h
  exact x_iret (pc := 11) X dX9_wipe_11
theorem dX9_here_0 : decode cX9_here 0 = .ok (.aload_n 0, 1) := by decide +kernel
theorem dX9_here_1 : decode cX9_here 1 = .ok (.getfield 82, 3) := by decide +kernel
theorem dX9_here_4 : decode cX9_here 4 = .ok (.aload_n 0, 1) := by decide +kernel
theorem dX9_here_5 : decode cX9_here 5 = .ok (.getfield 78, 3) := by decide +kernel
theorem dX9_here_8 : decode cX9_here 8 = .ok (.if_icmp .ge 15, 3) := by decide +kernel
theorem dX9_here_11 : decode cX9_here 11 = .ok (.aload_n 0, 1) := by decide +kernel
theorem dX9_here_12 : decode cX9_here 12 = .ok (.getfield 7, 3) := by decide +kernel
theorem dX9_here_15 : decode cX9_here 15 = .ok (.aload_n 0, 1) := by decide +kernel
theorem dX9_here_16 : decode cX9_here 16 = .ok (.getfield 82, 3) := by decide +kernel
theorem dX9_here_19 : decode cX9_here 19 = .ok (.baload, 1) := by decide +kernel
theorem dX9_here_20 : decode cX9_here 20 = .ok (.goto 5, 3) := by decide +kernel
theorem dX9_here_23 : decode cX9_here 23 = .ok (.bipush (-4), 2) := by decide +kernel
theorem dX9_here_25 : decode cX9_here 25 = .ok (.ireturn, 1) := by decide +kernel
def f_M_here (N nx : Nat) (D : Dt) (P : Ft) (a0 : Nat) : Option Int32 :=
  if kd nx a0 = 9 then
  if D a0 1 ≤ D a0 9 then
    some (-4)
  else
    nn (P a0 0) fun q1 =>
    if ab nx q1 1 (D a0 9) = true then
    some (D q1 (D a0 9).toNatClampNeg)
    else none
  else none
theorem m_M_here : MV yX9_here cX9_here 1 (some .int) 0 := ⟨mT 994 (by decide +kernel) rfl, mT 993 (by decide +kernel) rfl, mT 25 (by decide +kernel) rfl, mT 68 (by decide +kernel) rfl, by decide +kernel, by decide +kernel, by decide +kernel⟩
set_option maxHeartbeats 4000000 in
set_option maxRecDepth 100000 in
theorem c_M_here (l : Launch) (cx : Cx) (nx N : Nat) (D : Dt) (P : Ft) (a0 : Nat) (z : Int32) (h : f_M_here N nx D P a0 = some z) : Ct l cx yX9_here cX9_here 1 (some .int) 0 [.ref (cx.2.2 + a0)] D P nx (some (.int z)) D P := by
  refine x_met0 (by decide) (Nat.le_of_ble_eq_true rfl) ?_
  intro p e s m args below meth c X
  have X : XC p s m args meth c cx cX9_here 1 (some .int) "HeartPinsModel" "here" := X
  refine XW.sub (lv' := [(0, .ref (cx.2.2 + a0))]) [0] rfl ?_
  unfold f_M_here at h
  obtain ⟨hk0, h⟩ := grd h
  refine x_aload_n (pc := 0) X dX9_here_0 (i := 0) rfl 0 rfl ?_
  refine x_geti (ci := 9) (k := 9) (n := 26) (C := RX9) (T := TX9) (pc := 1) X dX9_here_1 hk0 rfl (by decide) w_898 rfl ?_
  refine x_aload_n (pc := 4) X dX9_here_4 (i := 0) rfl 0 rfl ?_
  refine x_geti (ci := 9) (k := 1) (n := 26) (C := RX9) (T := TX9) (pc := 5) X dX9_here_5 hk0 rfl (by decide) w_890 rfl ?_
  refine x_icmp_ge (tgt := 23) (pc := 8) X dX9_here_8 (by decide) (fun c3 => ?_) (fun c3 => ?_)
  · have h := ite_t c3 h
    refine x_bipush (v := (-4)) (pc := 23) X dX9_here_23 (by decide) ?_
    obtain rfl := Option.some.inj h
    exact x_iret (pc := 25) X dX9_here_25
  · have h := ite_f c3 h
    refine x_aload_n (pc := 11) X dX9_here_11 (i := 0) rfl 0 rfl ?_
    obtain ⟨q1, e1, h⟩ := nns h
    refine x_getr (ci := 9) (k := 0) (n := 26) (C := RX9) (T := TX9) (pc := 12) X dX9_here_12 hk0 rfl (by decide) w_889 rfl e1 ?_
    refine x_aload_n (pc := 15) X dX9_here_15 (i := 0) rfl 0 rfl ?_
    refine x_geti (ci := 9) (k := 9) (n := 26) (C := RX9) (T := TX9) (pc := 16) X dX9_here_16 hk0 rfl (by decide) w_898 rfl ?_
    obtain ⟨g2, h⟩ := grd h
    refine x_bald (pc := 19) X dX9_here_19 g2 ?_
    refine x_goto (tgt := 25) (pc := 20) X dX9_here_20 (by decide) ?_
    obtain rfl := Option.some.inj h
    exact x_iret (pc := 25) X dX9_here_25
theorem dX9_isFigure_0 : decode cX9_isFigure 0 = .ok (.aload_n 0, 1) := by decide +kernel
theorem dX9_isFigure_1 : decode cX9_isFigure 1 = .ok (.invokevirtual 85, 3) := by decide +kernel
theorem dX9_isFigure_4 : decode cX9_isFigure 4 = .ok (.bipush 48, 2) := by decide +kernel
theorem dX9_isFigure_6 : decode cX9_isFigure 6 = .ok (.bipush 57, 2) := by decide +kernel
theorem dX9_isFigure_8 : decode cX9_isFigure 8 = .ok (.invokestatic 74, 3) := by decide +kernel
theorem dX9_isFigure_11 : decode cX9_isFigure 11 = .ok (.ireturn, 1) := by decide +kernel
def f_M_isFigure (N nx : Nat) (D : Dt) (P : Ft) (a0 : Nat) : Option Int32 :=
  if kd nx a0 = 9 then
  (f_M_here N nx D P a0).bind fun z1 =>
  (f_M_in N nx D P z1 48 57).bind fun z2 =>
  if z2 = 0 ∨ z2 = 1 then
  some z2
  else none
  else none
theorem m_M_isFigure : MV yX9_isFigure cX9_isFigure 1 (some .boolean) 0 := ⟨mT 1006 (by decide +kernel) rfl, mT 1005 (by decide +kernel) rfl, mT 28 (by decide +kernel) rfl, mT 68 (by decide +kernel) rfl, by decide +kernel, by decide +kernel, by decide +kernel⟩
set_option maxHeartbeats 4000000 in
set_option maxRecDepth 100000 in
theorem c_M_isFigure (l : Launch) (cx : Cx) (nx N : Nat) (D : Dt) (P : Ft) (a0 : Nat) (z : Int32) (h : f_M_isFigure N nx D P a0 = some z) : Ct l cx yX9_isFigure cX9_isFigure 1 (some .boolean) 1 [.ref (cx.2.2 + a0)] D P nx (some (.int z)) D P := by
  refine x_met0 (by decide) (Nat.le_of_ble_eq_true rfl) ?_
  intro p e s m args below meth c X
  have X : XC p s m args meth c cx cX9_isFigure 1 (some .boolean) "HeartPinsModel" "isFigure" := X
  refine XW.sub (lv' := [(0, .ref (cx.2.2 + a0))]) [0] rfl ?_
  unfold f_M_isFigure at h
  obtain ⟨hk0, h⟩ := grd h
  refine x_aload_n (pc := 0) X dX9_isFigure_0 (i := 0) rfl 0 rfl ?_
  obtain ⟨z1, e1, h⟩ := bnds h
  refine x_callV (pc := 1) (As := []) (st := []) (st' := [.int z1]) X (c_M_here l cx nx N D P _ z1 e1) dX9_isFigure_1 w_991 m_M_here rfl hk0 (ci := 9) rfl rfl ⟨by decide, by decide⟩ ⟨Nat.zero_le _, Nat.zero_le _⟩ rfl (Nat.le_of_ble_eq_true rfl) rfl ?_
  refine x_bipush (v := 48) (pc := 4) X dX9_isFigure_4 (by decide) ?_
  refine x_bipush (v := 57) (pc := 6) X dX9_isFigure_6 (by decide) ?_
  obtain ⟨z2, e2, h⟩ := bnds h
  refine x_callS (pc := 8) (As := [.int z1, .int 48, .int 57]) (st := []) (st' := [.int z2]) X (c_M_in l cx nx N D P _ _ _ z2 e2) dX9_isFigure_8 w_972 m_M_in rfl ⟨by decide, by decide⟩ ⟨Nat.zero_le _, Nat.zero_le _⟩ rfl (Nat.le_of_ble_eq_true rfl) rfl ?_
  obtain ⟨b3, h⟩ := grd h
  obtain rfl := Option.some.inj h
  exact x_zret (pc := 11) X dX9_isFigure_11 b3
theorem dX9_due_0 : decode cX9_due 0 = .ok (.aload_n 0, 1) := by decide +kernel
theorem dX9_due_1 : decode cX9_due 1 = .ok (.aload_n 0, 1) := by decide +kernel
theorem dX9_due_2 : decode cX9_due 2 = .ok (.getfield 89, 3) := by decide +kernel
theorem dX9_due_5 : decode cX9_due 5 = .ok (.ifCond .ne 11, 3) := by decide +kernel
theorem dX9_due_8 : decode cX9_due 8 = .ok (.aload_n 0, 1) := by decide +kernel
theorem dX9_due_9 : decode cX9_due 9 = .ok (.invokevirtual 85, 3) := by decide +kernel
theorem dX9_due_12 : decode cX9_due 12 = .ok (.iload_n 1, 1) := by decide +kernel
theorem dX9_due_13 : decode cX9_due 13 = .ok (.if_icmp .eq 7, 3) := by decide +kernel
theorem dX9_due_16 : decode cX9_due 16 = .ok (.iconst 1, 1) := by decide +kernel
theorem dX9_due_17 : decode cX9_due 17 = .ok (.goto 4, 3) := by decide +kernel
theorem dX9_due_20 : decode cX9_due 20 = .ok (.iconst 0, 1) := by decide +kernel
theorem dX9_due_21 : decode cX9_due 21 = .ok (.putfield 89, 3) := by decide +kernel
theorem dX9_due_24 : decode cX9_due 24 = .ok (.aload_n 0, 1) := by decide +kernel
theorem dX9_due_25 : decode cX9_due 25 = .ok (.dup, 1) := by decide +kernel
theorem dX9_due_26 : decode cX9_due 26 = .ok (.getfield 82, 3) := by decide +kernel
theorem dX9_due_29 : decode cX9_due 29 = .ok (.iconst 1, 1) := by decide +kernel
theorem dX9_due_30 : decode cX9_due 30 = .ok (.iadd, 1) := by decide +kernel
theorem dX9_due_31 : decode cX9_due 31 = .ok (.putfield 82, 3) := by decide +kernel
theorem dX9_due_34 : decode cX9_due 34 = .ok (.return_, 1) := by decide +kernel
def f_M_due_21 (N nx : Nat) (D : Dt) (P : Ft) (a0 : Nat) (s0 : Nat) (s1 : Int32) : Option Dt :=
  if kd nx s0 = 9 then
  if s1 = 0 ∨ s1 = 1 then
  pas (upd2 D s0 10 s1) fun D2 =>
  pas (upd2 D2 a0 9 ((D2 a0 9) + 1)) fun D4 =>
  some D4
  else none
  else none
def f_M_due (N nx : Nat) (D : Dt) (P : Ft) (a0 : Nat) (i1 : Int32) : Option Dt :=
  if kd nx a0 = 9 then
  if D a0 10 = 0 then
    (f_M_here N nx D P a0).bind fun z5 =>
    if z5 = i1 then
      f_M_due_21 N nx D P a0 a0 0
    else
      f_M_due_21 N nx D P a0 a0 1
  else
    f_M_due_21 N nx D P a0 a0 1
  else none
theorem m_M_due : MV yX9_due cX9_due 2 none 1 := ⟨mT 1014 (by decide +kernel) rfl, mT 1013 (by decide +kernel) rfl, mT 30 (by decide +kernel) rfl, mT 68 (by decide +kernel) rfl, by decide +kernel, by decide +kernel, by decide +kernel⟩
set_option maxHeartbeats 4000000 in
set_option maxRecDepth 100000 in
theorem c_M_due (l : Launch) (cx : Cx) (nx N : Nat) (D : Dt) (P : Ft) (a0 : Nat) (i1 : Int32) (z : Dt) (h : f_M_due N nx D P a0 i1 = some z) : Ct l cx yX9_due cX9_due 2 none 1 [.ref (cx.2.2 + a0), .int i1] D P nx none z P := by
  refine x_met0 (by decide) (Nat.le_of_ble_eq_true rfl) ?_
  intro p e s m args below meth c X
  have X : XC p s m args meth c cx cX9_due 2 none "HeartPinsModel" "due" := X
  refine XW.sub (lv' := [(0, .ref (cx.2.2 + a0)), (1, .int i1)]) [0, 1] rfl ?_
  unfold f_M_due at h
  obtain ⟨hk0, h⟩ := grd h
  have hJ21 : ∀ (D : Dt) (s0 : Nat) (s1 : Int32), f_M_due_21 N nx D P a0 s0 s1 = some z → XW p l e (rmk 1) s m args below meth c (MQ below (Qx cx none z P nx) args s 0 0 (AA cx)) cx 2 D P nx 0 0 21 [(0, .ref (cx.2.2 + a0))] [.int s1, .ref (cx.2.2 + s0)] := by
    intro D s0 s1 h
    unfold f_M_due_21 at h
    obtain ⟨k1, h⟩ := grd h
    obtain ⟨b3, h⟩ := grd h
    obtain ⟨D2, w2, h⟩ := pass h
    refine x_putz (ci := 9) (k := 10) (n := 26) (C := RX9) (T := TX9) (D' := D2) (pc := 21) X dX9_due_21 k1 rfl (by decide) w_899 rfl (by decide +kernel) rfl b3 w2 ?_
    refine x_aload_n (pc := 24) X dX9_due_24 (i := 0) rfl 0 rfl ?_
    refine x_dup (pc := 25) X dX9_due_25 rfl ?_
    refine x_geti (ci := 9) (k := 9) (n := 26) (C := RX9) (T := TX9) (pc := 26) X dX9_due_26 hk0 rfl (by decide) w_898 rfl ?_
    refine x_iconst (v := 1) (pc := 29) X dX9_due_29 (by decide) ?_
    refine x_iadd (pc := 30) X dX9_due_30 ?_
    obtain ⟨D4, w4, h⟩ := pass h
    refine x_puti (ci := 9) (k := 9) (n := 26) (C := RX9) (T := TX9) (D' := D4) (pc := 31) X dX9_due_31 hk0 rfl (by decide) w_898 rfl (by decide +kernel) rfl w4 ?_
    obtain rfl := Option.some.inj h
    exact x_vret (pc := 34) X dX9_due_34
  refine x_aload_n (pc := 0) X dX9_due_0 (i := 0) rfl 0 rfl ?_
  refine x_aload_n (pc := 1) X dX9_due_1 (i := 0) rfl 0 rfl ?_
  refine x_geti (ci := 9) (k := 10) (n := 26) (C := RX9) (T := TX9) (pc := 2) X dX9_due_2 hk0 rfl (by decide) w_899 rfl ?_
  refine x_if_ne (tgt := 16) (pc := 5) X dX9_due_5 (by decide) (fun c7 => ?_) (fun c7 => ?_)
  · have h := ite_f c7 h
    refine x_iconst (v := 1) (pc := 16) X dX9_due_16 (by decide) ?_
    refine x_goto (tgt := 21) (pc := 17) X dX9_due_17 (by decide) ?_
    exact XW.sub [0] rfl (hJ21 _ _ _ h)
  · have h := ite_t c7 h
    refine x_aload_n (pc := 8) X dX9_due_8 (i := 0) rfl 0 rfl ?_
    obtain ⟨z5, e5, h⟩ := bnds h
    refine x_callV (pc := 9) (As := []) (st := [.ref (cx.2.2 + a0)]) (st' := [.int z5, .ref (cx.2.2 + a0)]) X (c_M_here l cx nx N D P _ z5 e5) dX9_due_9 w_991 m_M_here rfl hk0 (ci := 9) rfl rfl ⟨by decide, by decide⟩ ⟨Nat.zero_le _, Nat.zero_le _⟩ rfl (Nat.le_of_ble_eq_true rfl) rfl ?_
    refine x_iload_n (pc := 12) X dX9_due_12 (i := 1) rfl 1 rfl ?_
    refine x_icmp_eq (tgt := 20) (pc := 13) X dX9_due_13 (by decide) (fun c6 => ?_) (fun c6 => ?_)
    · have h := ite_t c6 h
      refine x_iconst (v := 0) (pc := 20) X dX9_due_20 (by decide) ?_
      exact XW.sub [0] rfl (hJ21 _ _ _ h)
    · have h := ite_f c6 h
      refine x_iconst (v := 1) (pc := 16) X dX9_due_16 (by decide) ?_
      refine x_goto (tgt := 21) (pc := 17) X dX9_due_17 (by decide) ?_
      exact XW.sub [0] rfl (hJ21 _ _ _ h)
theorem dX9_number_0 : decode cX9_number 0 = .ok (.bipush (-4), 2) := by decide +kernel
theorem dX9_number_2 : decode cX9_number 2 = .ok (.istore_n 3, 1) := by decide +kernel
theorem dX9_number_3 : decode cX9_number 3 = .ok (.iconst 0, 1) := by decide +kernel
theorem dX9_number_4 : decode cX9_number 4 = .ok (.istore 4, 2) := by decide +kernel
theorem dX9_number_6 : decode cX9_number 6 = .ok (.iload 4, 2) := by decide +kernel
theorem dX9_number_8 : decode cX9_number 8 = .ok (.iconst 2, 1) := by decide +kernel
theorem dX9_number_9 : decode cX9_number 9 = .ok (.if_icmp .ge 49, 3) := by decide +kernel
theorem dX9_number_12 : decode cX9_number 12 = .ok (.aload_n 0, 1) := by decide +kernel
theorem dX9_number_13 : decode cX9_number 13 = .ok (.invokevirtual 93, 3) := by decide +kernel
theorem dX9_number_16 : decode cX9_number 16 = .ok (.ifCond .eq 42, 3) := by decide +kernel
theorem dX9_number_19 : decode cX9_number 19 = .ok (.iload_n 3, 1) := by decide +kernel
theorem dX9_number_20 : decode cX9_number 20 = .ok (.bipush (-4), 2) := by decide +kernel
theorem dX9_number_22 : decode cX9_number 22 = .ok (.if_icmp .ne 7, 3) := by decide +kernel
theorem dX9_number_25 : decode cX9_number 25 = .ok (.iconst 0, 1) := by decide +kernel
theorem dX9_number_26 : decode cX9_number 26 = .ok (.goto 7, 3) := by decide +kernel
theorem dX9_number_29 : decode cX9_number 29 = .ok (.bipush 10, 2) := by decide +kernel
theorem dX9_number_31 : decode cX9_number 31 = .ok (.iload_n 3, 1) := by decide +kernel
theorem dX9_number_32 : decode cX9_number 32 = .ok (.imul, 1) := by decide +kernel
theorem dX9_number_33 : decode cX9_number 33 = .ok (.aload_n 0, 1) := by decide +kernel
theorem dX9_number_34 : decode cX9_number 34 = .ok (.invokevirtual 85, 3) := by decide +kernel
theorem dX9_number_37 : decode cX9_number 37 = .ok (.iadd, 1) := by decide +kernel
theorem dX9_number_38 : decode cX9_number 38 = .ok (.bipush 48, 2) := by decide +kernel
theorem dX9_number_40 : decode cX9_number 40 = .ok (.isub, 1) := by decide +kernel
theorem dX9_number_41 : decode cX9_number 41 = .ok (.istore_n 3, 1) := by decide +kernel
theorem dX9_number_42 : decode cX9_number 42 = .ok (.aload_n 0, 1) := by decide +kernel
theorem dX9_number_43 : decode cX9_number 43 = .ok (.dup, 1) := by decide +kernel
theorem dX9_number_44 : decode cX9_number 44 = .ok (.getfield 82, 3) := by decide +kernel
theorem dX9_number_47 : decode cX9_number 47 = .ok (.iconst 1, 1) := by decide +kernel
theorem dX9_number_48 : decode cX9_number 48 = .ok (.iadd, 1) := by decide +kernel
theorem dX9_number_49 : decode cX9_number 49 = .ok (.putfield 82, 3) := by decide +kernel
theorem dX9_number_52 : decode cX9_number 52 = .ok (.iinc 4 1, 3) := by decide +kernel
theorem dX9_number_55 : decode cX9_number 55 = .ok (.goto (-49), 3) := by decide +kernel
theorem dX9_number_58 : decode cX9_number 58 = .ok (.iload_n 3, 1) := by decide +kernel
theorem dX9_number_59 : decode cX9_number 59 = .ok (.iload_n 1, 1) := by decide +kernel
theorem dX9_number_60 : decode cX9_number 60 = .ok (.iload_n 2, 1) := by decide +kernel
theorem dX9_number_61 : decode cX9_number 61 = .ok (.invokestatic 74, 3) := by decide +kernel
theorem dX9_number_64 : decode cX9_number 64 = .ok (.istore 4, 2) := by decide +kernel
theorem dX9_number_66 : decode cX9_number 66 = .ok (.aload_n 0, 1) := by decide +kernel
theorem dX9_number_67 : decode cX9_number 67 = .ok (.aload_n 0, 1) := by decide +kernel
theorem dX9_number_68 : decode cX9_number 68 = .ok (.getfield 89, 3) := by decide +kernel
theorem dX9_number_71 : decode cX9_number 71 = .ok (.ifCond .ne 8, 3) := by decide +kernel
theorem dX9_number_74 : decode cX9_number 74 = .ok (.iload 4, 2) := by decide +kernel
theorem dX9_number_76 : decode cX9_number 76 = .ok (.ifCond .ne 7, 3) := by decide +kernel
theorem dX9_number_79 : decode cX9_number 79 = .ok (.iconst 1, 1) := by decide +kernel
theorem dX9_number_80 : decode cX9_number 80 = .ok (.goto 4, 3) := by decide +kernel
theorem dX9_number_83 : decode cX9_number 83 = .ok (.iconst 0, 1) := by decide +kernel
theorem dX9_number_84 : decode cX9_number 84 = .ok (.putfield 89, 3) := by decide +kernel
theorem dX9_number_87 : decode cX9_number 87 = .ok (.iload 4, 2) := by decide +kernel
theorem dX9_number_89 : decode cX9_number 89 = .ok (.ifCond .eq 7, 3) := by decide +kernel
theorem dX9_number_92 : decode cX9_number 92 = .ok (.iload_n 3, 1) := by decide +kernel
theorem dX9_number_93 : decode cX9_number 93 = .ok (.goto 4, 3) := by decide +kernel
theorem dX9_number_96 : decode cX9_number 96 = .ok (.iconst 0, 1) := by decide +kernel
theorem dX9_number_97 : decode cX9_number 97 = .ok (.ireturn, 1) := by decide +kernel
def f_M_number_84 (N nx : Nat) (D : Dt) (P : Ft) (i3 : Int32) (i4 : Int32) (s0 : Nat) (s1 : Int32) : Option (Int32 × Dt) :=
  if kd nx s0 = 9 then
  if s1 = 0 ∨ s1 = 1 then
  pas (upd2 D s0 10 s1) fun D3 =>
  if i4 = 0 then
    some (0, D3)
  else
    some (i3, D3)
  else none
  else none
def f_M_number_58 (N nx : Nat) (D : Dt) (P : Ft) (a0 : Nat) (i1 : Int32) (i2 : Int32) (i3 : Int32) : Option (Int32 × Dt) :=
  (f_M_in N nx D P i3 i1 i2).bind fun z1 =>
  if D a0 10 = 0 then
    if z1 = 0 then
      f_M_number_84 N nx D P i3 z1 a0 1
    else
      f_M_number_84 N nx D P i3 z1 a0 0
  else
    f_M_number_84 N nx D P i3 z1 a0 1
def f_M_number_33 (N nx : Nat) (rec6 : Dt → Int32 → Int32 → Option (Int32 × Dt)) (D : Dt) (P : Ft) (a0 : Nat) (i1 : Int32) (i2 : Int32) (i4 : Int32) (s0 : Int32) : Option (Int32 × Dt) :=
  (f_M_here N nx D P a0).bind fun z9 =>
  pas (upd2 D a0 9 ((D a0 9) + 1)) fun D10 =>
  rec6 D10 ((s0 + z9) - 48) (i4 + 1)
def f_M_number_6 (N nx : Nat) (P : Ft) (a0 : Nat) (i1 : Int32) (i2 : Int32) (rec6 : Dt → Int32 → Int32 → Option (Int32 × Dt)) (D : Dt) (i3 : Int32) (i4 : Int32) : Option (Int32 × Dt) :=
  if 2 ≤ i4 then
    f_M_number_58 N nx D P a0 i1 i2 i3
  else
    (f_M_isFigure N nx D P a0).bind fun z8 =>
    if z8 = 0 then
      f_M_number_58 N nx D P a0 i1 i2 i3
    else
      if i3 = (-4) then
        f_M_number_33 N nx rec6 D P a0 i1 i2 i4 0
      else
        f_M_number_33 N nx rec6 D P a0 i1 i2 i4 (10 * i3)
def f_M_number (N nx : Nat) (D : Dt) (P : Ft) (a0 : Nat) (i1 : Int32) (i2 : Int32) : Option (Int32 × Dt) :=
  if kd nx a0 = 9 then
  wk3 N (f_M_number_6 N nx P a0 i1 i2) D (-4) 0
  else none
theorem m_M_number : MV yX9_number cX9_number 5 (some .int) 2 := ⟨mT 1002 (by decide +kernel) rfl, mT 1001 (by decide +kernel) rfl, mT 27 (by decide +kernel) rfl, mT 68 (by decide +kernel) rfl, by decide +kernel, by decide +kernel, by decide +kernel⟩
set_option maxHeartbeats 4000000 in
set_option maxRecDepth 100000 in
theorem c_M_number (l : Launch) (cx : Cx) (nx N : Nat) (D : Dt) (P : Ft) (a0 : Nat) (i1 : Int32) (i2 : Int32) (z : Int32 × Dt) (h : f_M_number N nx D P a0 i1 i2 = some z) : Ct l cx yX9_number cX9_number 5 (some .int) 2 [.ref (cx.2.2 + a0), .int i1, .int i2] D P nx (some (.int z.1)) z.2 P := by
  refine x_met0 (by decide) (Nat.le_of_ble_eq_true rfl) ?_
  intro p e s m args below meth c X
  have X : XC p s m args meth c cx cX9_number 5 (some .int) "HeartPinsModel" "number" := X
  refine XW.sub (lv' := [(0, .ref (cx.2.2 + a0)), (1, .int i1), (2, .int i2)]) [0, 1, 2] rfl ?_
  unfold f_M_number at h
  obtain ⟨hk0, h⟩ := grd h
  have hJ84 : ∀ (D : Dt) (i3 : Int32) (i4 : Int32) (s0 : Nat) (s1 : Int32), f_M_number_84 N nx D P i3 i4 s0 s1 = some z → XW p l e (rmk 2) s m args below meth c (MQ below (Qx cx (some (.int z.1)) z.2 P nx) args s 0 0 (AA cx)) cx 5 D P nx 0 0 84 [(3, .int i3), (4, .int i4)] [.int s1, .ref (cx.2.2 + s0)] := by
    intro D i3 i4 s0 s1 h
    unfold f_M_number_84 at h
    obtain ⟨k2, h⟩ := grd h
    obtain ⟨b4, h⟩ := grd h
    obtain ⟨D3, w3, h⟩ := pass h
    refine x_putz (ci := 9) (k := 10) (n := 26) (C := RX9) (T := TX9) (D' := D3) (pc := 84) X dX9_number_84 k2 rfl (by decide) w_899 rfl (by decide +kernel) rfl b4 w3 ?_
    refine x_iload (pc := 87) X dX9_number_87 1 rfl ?_
    refine x_if_eq (tgt := 96) (pc := 89) X dX9_number_89 (by decide) (fun c5 => ?_) (fun c5 => ?_)
    · have h := ite_t c5 h
      refine x_iconst (v := 0) (pc := 96) X dX9_number_96 (by decide) ?_
      obtain rfl := Option.some.inj h
      exact x_iret (pc := 97) X dX9_number_97
    · have h := ite_f c5 h
      refine x_iload_n (pc := 92) X dX9_number_92 (i := 3) rfl 0 rfl ?_
      refine x_goto (tgt := 97) (pc := 93) X dX9_number_93 (by decide) ?_
      obtain rfl := Option.some.inj h
      exact x_iret (pc := 97) X dX9_number_97
  have hJ58 : ∀ (D : Dt) (i3 : Int32), f_M_number_58 N nx D P a0 i1 i2 i3 = some z → XW p l e (rmk 2) s m args below meth c (MQ below (Qx cx (some (.int z.1)) z.2 P nx) args s 0 0 (AA cx)) cx 5 D P nx 0 0 58 [(0, .ref (cx.2.2 + a0)), (1, .int i1), (2, .int i2), (3, .int i3)] [] := by
    intro D i3 h
    unfold f_M_number_58 at h
    refine x_iload_n (pc := 58) X dX9_number_58 (i := 3) rfl 3 rfl ?_
    refine x_iload_n (pc := 59) X dX9_number_59 (i := 1) rfl 1 rfl ?_
    refine x_iload_n (pc := 60) X dX9_number_60 (i := 2) rfl 2 rfl ?_
    obtain ⟨z1, e1, h⟩ := bnds h
    refine x_callS (pc := 61) (As := [.int i3, .int i1, .int i2]) (st := []) (st' := [.int z1]) X (c_M_in l cx nx N D P _ _ _ z1 e1) dX9_number_61 w_972 m_M_in rfl ⟨by decide, by decide⟩ ⟨Nat.zero_le _, Nat.zero_le _⟩ rfl (Nat.le_of_ble_eq_true rfl) rfl ?_
    refine x_istore (lv' := [(4, .int z1), (0, .ref (cx.2.2 + a0)), (1, .int i1), (2, .int i2), (3, .int i3)]) (pc := 64) X dX9_number_64 (by decide) rfl ?_
    refine x_aload_n (pc := 66) X dX9_number_66 (i := 0) rfl 1 rfl ?_
    refine x_aload_n (pc := 67) X dX9_number_67 (i := 0) rfl 1 rfl ?_
    refine x_geti (ci := 9) (k := 10) (n := 26) (C := RX9) (T := TX9) (pc := 68) X dX9_number_68 hk0 rfl (by decide) w_899 rfl ?_
    refine x_if_ne (tgt := 79) (pc := 71) X dX9_number_71 (by decide) (fun c7 => ?_) (fun c7 => ?_)
    · have h := ite_f c7 h
      refine x_iconst (v := 1) (pc := 79) X dX9_number_79 (by decide) ?_
      refine x_goto (tgt := 84) (pc := 80) X dX9_number_80 (by decide) ?_
      exact XW.sub [4, 0] rfl (hJ84 _ _ _ _ _ h)
    · have h := ite_t c7 h
      refine x_iload (pc := 74) X dX9_number_74 0 rfl ?_
      refine x_if_ne (tgt := 83) (pc := 76) X dX9_number_76 (by decide) (fun c6 => ?_) (fun c6 => ?_)
      · have h := ite_f c6 h
        refine x_iconst (v := 0) (pc := 83) X dX9_number_83 (by decide) ?_
        exact XW.sub [4, 0] rfl (hJ84 _ _ _ _ _ h)
      · have h := ite_t c6 h
        refine x_iconst (v := 1) (pc := 79) X dX9_number_79 (by decide) ?_
        refine x_goto (tgt := 84) (pc := 80) X dX9_number_80 (by decide) ?_
        exact XW.sub [4, 0] rfl (hJ84 _ _ _ _ _ h)
  have hL6 : ∀ (n : Nat) (D : Dt) (i3 : Int32) (i4 : Int32), wk3 n (f_M_number_6 N nx P a0 i1 i2) D i3 i4 = some z → XW p l e (rmk 2) s m args below meth c (MQ below (Qx cx (some (.int z.1)) z.2 P nx) args s 0 0 (AA cx)) cx 5 D P nx 0 0 6 [(0, .ref (cx.2.2 + a0)), (1, .int i1), (2, .int i2), (3, .int i3), (4, .int i4)] [] := by
    intro n
    induction n with
    | zero => intro D i3 i4 h; exact (nonz h).elim
    | succ n ih6 =>
      intro D i3 i4 h
      have h : f_M_number_6 N nx P a0 i1 i2 (wk3 n (f_M_number_6 N nx P a0 i1 i2)) D i3 i4 = some z := h
      generalize wk3 n (f_M_number_6 N nx P a0 i1 i2) = rec6 at ih6 h
      unfold f_M_number_6 at h
      have hJ33 : ∀ (D : Dt) (i4 : Int32) (s0 : Int32), f_M_number_33 N nx rec6 D P a0 i1 i2 i4 s0 = some z → XW p l e (rmk 2) s m args below meth c (MQ below (Qx cx (some (.int z.1)) z.2 P nx) args s 0 0 (AA cx)) cx 5 D P nx 0 0 33 [(0, .ref (cx.2.2 + a0)), (1, .int i1), (2, .int i2), (4, .int i4)] [.int s0] := by
        intro D i4 s0 h
        unfold f_M_number_33 at h
        refine x_aload_n (pc := 33) X dX9_number_33 (i := 0) rfl 0 rfl ?_
        obtain ⟨z9, e9, h⟩ := bnds h
        refine x_callV (pc := 34) (As := []) (st := [.int s0]) (st' := [.int z9, .int s0]) X (c_M_here l cx nx N D P _ z9 e9) dX9_number_34 w_991 m_M_here rfl hk0 (ci := 9) rfl rfl ⟨by decide, by decide⟩ ⟨Nat.zero_le _, Nat.zero_le _⟩ rfl (Nat.le_of_ble_eq_true rfl) rfl ?_
        refine x_iadd (pc := 37) X dX9_number_37 ?_
        refine x_bipush (v := 48) (pc := 38) X dX9_number_38 (by decide) ?_
        refine x_isub (pc := 40) X dX9_number_40 ?_
        refine x_istore_n (lv' := [(3, .int ((s0 + z9) - 48)), (0, .ref (cx.2.2 + a0)), (1, .int i1), (2, .int i2), (4, .int i4)]) (pc := 41) X dX9_number_41 (i := 3) rfl (by decide) rfl ?_
        refine x_aload_n (pc := 42) X dX9_number_42 (i := 0) rfl 1 rfl ?_
        refine x_dup (pc := 43) X dX9_number_43 rfl ?_
        refine x_geti (ci := 9) (k := 9) (n := 26) (C := RX9) (T := TX9) (pc := 44) X dX9_number_44 hk0 rfl (by decide) w_898 rfl ?_
        refine x_iconst (v := 1) (pc := 47) X dX9_number_47 (by decide) ?_
        refine x_iadd (pc := 48) X dX9_number_48 ?_
        obtain ⟨D10, w10, h⟩ := pass h
        refine x_puti (ci := 9) (k := 9) (n := 26) (C := RX9) (T := TX9) (D' := D10) (pc := 49) X dX9_number_49 hk0 rfl (by decide) w_898 rfl (by decide +kernel) rfl w10 ?_
        refine x_iinc (v := i4 + 1) (lv' := [(4, .int (i4 + 1)), (3, .int ((s0 + z9) - 48)), (0, .ref (cx.2.2 + a0)), (1, .int i1), (2, .int i2)]) (pc := 52) X dX9_number_52 4 rfl rfl (by decide) rfl ?_
        refine x_goto (tgt := 6) (pc := 55) X dX9_number_55 (by decide) ?_
        exact XW.sub [2, 3, 4, 1, 0] rfl (ih6 _ _ _ h)
      refine x_iload (pc := 6) X dX9_number_6 4 rfl ?_
      refine x_iconst (v := 2) (pc := 8) X dX9_number_8 (by decide) ?_
      refine x_icmp_ge (tgt := 58) (pc := 9) X dX9_number_9 (by decide) (fun c13 => ?_) (fun c13 => ?_)
      · have h := ite_t c13 h
        exact XW.sub [0, 1, 2, 3] rfl (hJ58 _ _ h)
      · have h := ite_f c13 h
        refine x_aload_n (pc := 12) X dX9_number_12 (i := 0) rfl 0 rfl ?_
        obtain ⟨z8, e8, h⟩ := bnds h
        refine x_callV (pc := 13) (As := []) (st := []) (st' := [.int z8]) X (c_M_isFigure l cx nx N D P _ z8 e8) dX9_number_13 w_1003 m_M_isFigure rfl hk0 (ci := 9) rfl rfl ⟨by decide, by decide⟩ ⟨Nat.zero_le _, Nat.zero_le _⟩ rfl (Nat.le_of_ble_eq_true rfl) rfl ?_
        refine x_if_eq (tgt := 58) (pc := 16) X dX9_number_16 (by decide) (fun c12 => ?_) (fun c12 => ?_)
        · have h := ite_t c12 h
          exact XW.sub [0, 1, 2, 3] rfl (hJ58 _ _ h)
        · have h := ite_f c12 h
          refine x_iload_n (pc := 19) X dX9_number_19 (i := 3) rfl 3 rfl ?_
          refine x_bipush (v := (-4)) (pc := 20) X dX9_number_20 (by decide) ?_
          refine x_icmp_ne (tgt := 29) (pc := 22) X dX9_number_22 (by decide) (fun c11 => ?_) (fun c11 => ?_)
          · have h := ite_f c11 h
            refine x_bipush (v := 10) (pc := 29) X dX9_number_29 (by decide) ?_
            refine x_iload_n (pc := 31) X dX9_number_31 (i := 3) rfl 3 rfl ?_
            refine x_imul (pc := 32) X dX9_number_32 ?_
            exact XW.sub [0, 1, 2, 4] rfl (hJ33 _ _ _ h)
          · have h := ite_t c11 h
            refine x_iconst (v := 0) (pc := 25) X dX9_number_25 (by decide) ?_
            refine x_goto (tgt := 33) (pc := 26) X dX9_number_26 (by decide) ?_
            exact XW.sub [0, 1, 2, 4] rfl (hJ33 _ _ _ h)
  refine x_bipush (v := (-4)) (pc := 0) X dX9_number_0 (by decide) ?_
  refine x_istore_n (lv' := [(3, .int (-4)), (0, .ref (cx.2.2 + a0)), (1, .int i1), (2, .int i2)]) (pc := 2) X dX9_number_2 (i := 3) rfl (by decide) rfl ?_
  refine x_iconst (v := 0) (pc := 3) X dX9_number_3 (by decide) ?_
  refine x_istore (lv' := [(4, .int 0), (3, .int (-4)), (0, .ref (cx.2.2 + a0)), (1, .int i1), (2, .int i2)]) (pc := 4) X dX9_number_4 (by decide) rfl ?_
  exact XW.sub [2, 3, 4, 1, 0] rfl (hL6 _ _ _ _ h)
theorem dX9_readPerson_0 : decode cX9_readPerson 0 = .ok (.aload_n 0, 1) := by decide +kernel
theorem dX9_readPerson_1 : decode cX9_readPerson 1 = .ok (.getfield 13, 3) := by decide +kernel
theorem dX9_readPerson_4 : decode cX9_readPerson 4 = .ok (.iconst 1, 1) := by decide +kernel
theorem dX9_readPerson_5 : decode cX9_readPerson 5 = .ok (.iaload, 1) := by decide +kernel
theorem dX9_readPerson_6 : decode cX9_readPerson 6 = .ok (.iconst 5, 1) := by decide +kernel
theorem dX9_readPerson_7 : decode cX9_readPerson 7 = .ok (.if_icmp .ne 9, 3) := by decide +kernel
theorem dX9_readPerson_10 : decode cX9_readPerson 10 = .ok (.aload_n 0, 1) := by decide +kernel
theorem dX9_readPerson_11 : decode cX9_readPerson 11 = .ok (.iconst 1, 1) := by decide +kernel
theorem dX9_readPerson_12 : decode cX9_readPerson 12 = .ok (.putfield 89, 3) := by decide +kernel
theorem dX9_readPerson_15 : decode cX9_readPerson 15 = .ok (.return_, 1) := by decide +kernel
theorem dX9_readPerson_16 : decode cX9_readPerson 16 = .ok (.aload_n 0, 1) := by decide +kernel
theorem dX9_readPerson_17 : decode cX9_readPerson 17 = .ok (.getfield 23, 3) := by decide +kernel
theorem dX9_readPerson_20 : decode cX9_readPerson 20 = .ok (.iconst 5, 1) := by decide +kernel
theorem dX9_readPerson_21 : decode cX9_readPerson 21 = .ok (.aload_n 0, 1) := by decide +kernel
theorem dX9_readPerson_22 : decode cX9_readPerson 22 = .ok (.getfield 13, 3) := by decide +kernel
theorem dX9_readPerson_25 : decode cX9_readPerson 25 = .ok (.iconst 1, 1) := by decide +kernel
theorem dX9_readPerson_26 : decode cX9_readPerson 26 = .ok (.iaload, 1) := by decide +kernel
theorem dX9_readPerson_27 : decode cX9_readPerson 27 = .ok (.iadd, 1) := by decide +kernel
theorem dX9_readPerson_28 : decode cX9_readPerson 28 = .ok (.aload_n 0, 1) := by decide +kernel
theorem dX9_readPerson_29 : decode cX9_readPerson 29 = .ok (.iconst 0, 1) := by decide +kernel
theorem dX9_readPerson_30 : decode cX9_readPerson 30 = .ok (.bipush 60, 2) := by decide +kernel
theorem dX9_readPerson_32 : decode cX9_readPerson 32 = .ok (.invokevirtual 97, 3) := by decide +kernel
theorem dX9_readPerson_35 : decode cX9_readPerson 35 = .ok (.iastore, 1) := by decide +kernel
theorem dX9_readPerson_36 : decode cX9_readPerson 36 = .ok (.aload_n 0, 1) := by decide +kernel
theorem dX9_readPerson_37 : decode cX9_readPerson 37 = .ok (.getfield 13, 3) := by decide +kernel
theorem dX9_readPerson_40 : decode cX9_readPerson 40 = .ok (.iconst 1, 1) := by decide +kernel
theorem dX9_readPerson_41 : decode cX9_readPerson 41 = .ok (.dup2, 1) := by decide +kernel
theorem dX9_readPerson_42 : decode cX9_readPerson 42 = .ok (.iaload, 1) := by decide +kernel
theorem dX9_readPerson_43 : decode cX9_readPerson 43 = .ok (.iconst 1, 1) := by decide +kernel
theorem dX9_readPerson_44 : decode cX9_readPerson 44 = .ok (.iadd, 1) := by decide +kernel
theorem dX9_readPerson_45 : decode cX9_readPerson 45 = .ok (.iastore, 1) := by decide +kernel
theorem dX9_readPerson_46 : decode cX9_readPerson 46 = .ok (.return_, 1) := by decide +kernel
def f_M_readPerson (N nx : Nat) (D : Dt) (P : Ft) (a0 : Nat) : Option Dt :=
  if kd nx a0 = 9 then
  nn (P a0 2) fun q1 =>
  if ab nx q1 3 1 = true then
  if D q1 (1 : Int32).toNatClampNeg = 5 then
    pas (upd2 D a0 10 1) fun D9 =>
    some D9
  else
    nn (P a0 5) fun q3 =>
    if ab nx q1 3 1 = true then
    (f_M_number N nx D P a0 0 60).bind fun z5 =>
    if ab nx q3 3 (5 + (D q1 (1 : Int32).toNatClampNeg)) = true then
    pas (upd2 z5.2 q3 (5 + (D q1 (1 : Int32).toNatClampNeg)).toNatClampNeg z5.1) fun D6 =>
    if ab nx q1 3 1 = true then
    if ab nx q1 3 1 = true then
    pas (upd2 D6 q1 (1 : Int32).toNatClampNeg ((D6 q1 (1 : Int32).toNatClampNeg) + 1)) fun D8 =>
    some D8
    else none
    else none
    else none
    else none
  else none
  else none
theorem m_M_readPerson : MV yX9_readPerson cX9_readPerson 1 none 0 := ⟨mT 998 (by decide +kernel) rfl, mT 997 (by decide +kernel) rfl, mT 26 (by decide +kernel) rfl, mT 68 (by decide +kernel) rfl, by decide +kernel, by decide +kernel, by decide +kernel⟩
set_option maxHeartbeats 4000000 in
set_option maxRecDepth 100000 in
theorem c_M_readPerson (l : Launch) (cx : Cx) (nx N : Nat) (D : Dt) (P : Ft) (a0 : Nat) (z : Dt) (h : f_M_readPerson N nx D P a0 = some z) : Ct l cx yX9_readPerson cX9_readPerson 1 none 3 [.ref (cx.2.2 + a0)] D P nx none z P := by
  refine x_met0 (by decide) (Nat.le_of_ble_eq_true rfl) ?_
  intro p e s m args below meth c X
  have X : XC p s m args meth c cx cX9_readPerson 1 none "HeartPinsModel" "readPerson" := X
  refine XW.sub (lv' := [(0, .ref (cx.2.2 + a0))]) [0] rfl ?_
  unfold f_M_readPerson at h
  obtain ⟨hk0, h⟩ := grd h
  refine x_aload_n (pc := 0) X dX9_readPerson_0 (i := 0) rfl 0 rfl ?_
  obtain ⟨q1, e1, h⟩ := nns h
  refine x_getr (ci := 9) (k := 2) (n := 26) (C := RX9) (T := TX9) (pc := 1) X dX9_readPerson_1 hk0 rfl (by decide) w_891 rfl e1 ?_
  refine x_iconst (v := 1) (pc := 4) X dX9_readPerson_4 (by decide) ?_
  obtain ⟨g2, h⟩ := grd h
  refine x_iald (pc := 5) X dX9_readPerson_5 g2 ?_
  refine x_iconst (v := 5) (pc := 6) X dX9_readPerson_6 (by decide) ?_
  refine x_icmp_ne (tgt := 16) (pc := 7) X dX9_readPerson_7 (by decide) (fun c10 => ?_) (fun c10 => ?_)
  · have h := ite_f c10 h
    refine x_aload_n (pc := 16) X dX9_readPerson_16 (i := 0) rfl 0 rfl ?_
    obtain ⟨q3, e3, h⟩ := nns h
    refine x_getr (ci := 9) (k := 5) (n := 26) (C := RX9) (T := TX9) (pc := 17) X dX9_readPerson_17 hk0 rfl (by decide) w_894 rfl e3 ?_
    refine x_iconst (v := 5) (pc := 20) X dX9_readPerson_20 (by decide) ?_
    refine x_aload_n (pc := 21) X dX9_readPerson_21 (i := 0) rfl 0 rfl ?_
    refine x_getr (ci := 9) (k := 2) (n := 26) (C := RX9) (T := TX9) (pc := 22) X dX9_readPerson_22 hk0 rfl (by decide) w_891 rfl e1 ?_
    refine x_iconst (v := 1) (pc := 25) X dX9_readPerson_25 (by decide) ?_
    obtain ⟨g4, h⟩ := grd h
    refine x_iald (pc := 26) X dX9_readPerson_26 g4 ?_
    refine x_iadd (pc := 27) X dX9_readPerson_27 ?_
    refine x_aload_n (pc := 28) X dX9_readPerson_28 (i := 0) rfl 0 rfl ?_
    refine x_iconst (v := 0) (pc := 29) X dX9_readPerson_29 (by decide) ?_
    refine x_bipush (v := 60) (pc := 30) X dX9_readPerson_30 (by decide) ?_
    obtain ⟨z5, e5, h⟩ := bnds h
    refine x_callV (pc := 32) (As := [.int 0, .int 60]) (st := [.int (5 + (D q1 (1 : Int32).toNatClampNeg)), .ref (cx.2.2 + q3)]) (st' := [.int z5.1, .int (5 + (D q1 (1 : Int32).toNatClampNeg)), .ref (cx.2.2 + q3)]) X (c_M_number l cx nx N D P _ _ _ z5 e5) dX9_readPerson_32 w_999 m_M_number rfl hk0 (ci := 9) rfl rfl ⟨by decide, by decide⟩ ⟨Nat.zero_le _, Nat.zero_le _⟩ rfl (Nat.le_of_ble_eq_true rfl) rfl ?_
    obtain ⟨g6, h⟩ := grd h
    obtain ⟨D6, w6, h⟩ := pass h
    refine x_iast (D' := D6) (pc := 35) X dX9_readPerson_35 g6 w6 ?_
    refine x_aload_n (pc := 36) X dX9_readPerson_36 (i := 0) rfl 0 rfl ?_
    refine x_getr (ci := 9) (k := 2) (n := 26) (C := RX9) (T := TX9) (pc := 37) X dX9_readPerson_37 hk0 rfl (by decide) w_891 rfl e1 ?_
    refine x_iconst (v := 1) (pc := 40) X dX9_readPerson_40 (by decide) ?_
    refine x_dup2 (pc := 41) X dX9_readPerson_41 rfl rfl ?_
    obtain ⟨g7, h⟩ := grd h
    refine x_iald (pc := 42) X dX9_readPerson_42 g7 ?_
    refine x_iconst (v := 1) (pc := 43) X dX9_readPerson_43 (by decide) ?_
    refine x_iadd (pc := 44) X dX9_readPerson_44 ?_
    obtain ⟨g8, h⟩ := grd h
    obtain ⟨D8, w8, h⟩ := pass h
    refine x_iast (D' := D8) (pc := 45) X dX9_readPerson_45 g8 w8 ?_
    obtain rfl := Option.some.inj h
    exact x_vret (pc := 46) X dX9_readPerson_46
  · have h := ite_t c10 h
    refine x_aload_n (pc := 10) X dX9_readPerson_10 (i := 0) rfl 0 rfl ?_
    refine x_iconst (v := 1) (pc := 11) X dX9_readPerson_11 (by decide) ?_
    obtain ⟨D9, w9, h⟩ := pass h
    refine x_putz (ci := 9) (k := 10) (n := 26) (C := RX9) (T := TX9) (D' := D9) (pc := 12) X dX9_readPerson_12 hk0 rfl (by decide) w_899 rfl (by decide +kernel) rfl (by decide) w9 ?_
    obtain rfl := Option.some.inj h
    exact x_vret (pc := 15) X dX9_readPerson_15
theorem dX9_readPin_0 : decode cX9_readPin 0 = .ok (.aload_n 0, 1) := by decide +kernel
theorem dX9_readPin_1 : decode cX9_readPin 1 = .ok (.getfield 17, 3) := by decide +kernel
theorem dX9_readPin_4 : decode cX9_readPin 4 = .ok (.iconst 1, 1) := by decide +kernel
theorem dX9_readPin_5 : decode cX9_readPin 5 = .ok (.iaload, 1) := by decide +kernel
theorem dX9_readPin_6 : decode cX9_readPin 6 = .ok (.bipush 8, 2) := by decide +kernel
theorem dX9_readPin_8 : decode cX9_readPin 8 = .ok (.if_icmp .ne 9, 3) := by decide +kernel
theorem dX9_readPin_11 : decode cX9_readPin 11 = .ok (.aload_n 0, 1) := by decide +kernel
theorem dX9_readPin_12 : decode cX9_readPin 12 = .ok (.iconst 1, 1) := by decide +kernel
theorem dX9_readPin_13 : decode cX9_readPin 13 = .ok (.putfield 89, 3) := by decide +kernel
theorem dX9_readPin_16 : decode cX9_readPin 16 = .ok (.return_, 1) := by decide +kernel
theorem dX9_readPin_17 : decode cX9_readPin 17 = .ok (.bipush 8, 2) := by decide +kernel
theorem dX9_readPin_19 : decode cX9_readPin 19 = .ok (.aload_n 0, 1) := by decide +kernel
theorem dX9_readPin_20 : decode cX9_readPin 20 = .ok (.getfield 17, 3) := by decide +kernel
theorem dX9_readPin_23 : decode cX9_readPin 23 = .ok (.iconst 1, 1) := by decide +kernel
theorem dX9_readPin_24 : decode cX9_readPin 24 = .ok (.iaload, 1) := by decide +kernel
theorem dX9_readPin_25 : decode cX9_readPin 25 = .ok (.iadd, 1) := by decide +kernel
theorem dX9_readPin_26 : decode cX9_readPin 26 = .ok (.istore_n 1, 1) := by decide +kernel
theorem dX9_readPin_27 : decode cX9_readPin 27 = .ok (.aload_n 0, 1) := by decide +kernel
theorem dX9_readPin_28 : decode cX9_readPin 28 = .ok (.getfield 26, 3) := by decide +kernel
theorem dX9_readPin_31 : decode cX9_readPin 31 = .ok (.iload_n 1, 1) := by decide +kernel
theorem dX9_readPin_32 : decode cX9_readPin 32 = .ok (.aload_n 0, 1) := by decide +kernel
theorem dX9_readPin_33 : decode cX9_readPin 33 = .ok (.iconst 0, 1) := by decide +kernel
theorem dX9_readPin_34 : decode cX9_readPin 34 = .ok (.aload_n 0, 1) := by decide +kernel
theorem dX9_readPin_35 : decode cX9_readPin 35 = .ok (.getfield 13, 3) := by decide +kernel
theorem dX9_readPin_38 : decode cX9_readPin 38 = .ok (.iconst 1, 1) := by decide +kernel
theorem dX9_readPin_39 : decode cX9_readPin 39 = .ok (.iaload, 1) := by decide +kernel
theorem dX9_readPin_40 : decode cX9_readPin 40 = .ok (.iconst 1, 1) := by decide +kernel
theorem dX9_readPin_41 : decode cX9_readPin 41 = .ok (.isub, 1) := by decide +kernel
theorem dX9_readPin_42 : decode cX9_readPin 42 = .ok (.invokevirtual 97, 3) := by decide +kernel
theorem dX9_readPin_45 : decode cX9_readPin 45 = .ok (.iastore, 1) := by decide +kernel
theorem dX9_readPin_46 : decode cX9_readPin 46 = .ok (.aload_n 0, 1) := by decide +kernel
theorem dX9_readPin_47 : decode cX9_readPin 47 = .ok (.bipush 44, 2) := by decide +kernel
theorem dX9_readPin_49 : decode cX9_readPin 49 = .ok (.invokevirtual 101, 3) := by decide +kernel
theorem dX9_readPin_52 : decode cX9_readPin 52 = .ok (.aload_n 0, 1) := by decide +kernel
theorem dX9_readPin_53 : decode cX9_readPin 53 = .ok (.getfield 29, 3) := by decide +kernel
theorem dX9_readPin_56 : decode cX9_readPin 56 = .ok (.iload_n 1, 1) := by decide +kernel
theorem dX9_readPin_57 : decode cX9_readPin 57 = .ok (.aload_n 0, 1) := by decide +kernel
theorem dX9_readPin_58 : decode cX9_readPin 58 = .ok (.iconst 0, 1) := by decide +kernel
theorem dX9_readPin_59 : decode cX9_readPin 59 = .ok (.iconst 3, 1) := by decide +kernel
theorem dX9_readPin_60 : decode cX9_readPin 60 = .ok (.invokevirtual 97, 3) := by decide +kernel
theorem dX9_readPin_63 : decode cX9_readPin 63 = .ok (.iastore, 1) := by decide +kernel
theorem dX9_readPin_64 : decode cX9_readPin 64 = .ok (.aload_n 0, 1) := by decide +kernel
theorem dX9_readPin_65 : decode cX9_readPin 65 = .ok (.bipush 44, 2) := by decide +kernel
theorem dX9_readPin_67 : decode cX9_readPin 67 = .ok (.invokevirtual 101, 3) := by decide +kernel
theorem dX9_readPin_70 : decode cX9_readPin 70 = .ok (.aload_n 0, 1) := by decide +kernel
theorem dX9_readPin_71 : decode cX9_readPin 71 = .ok (.getfield 32, 3) := by decide +kernel
theorem dX9_readPin_74 : decode cX9_readPin 74 = .ok (.iload_n 1, 1) := by decide +kernel
theorem dX9_readPin_75 : decode cX9_readPin 75 = .ok (.aload_n 0, 1) := by decide +kernel
theorem dX9_readPin_76 : decode cX9_readPin 76 = .ok (.iconst 1, 1) := by decide +kernel
theorem dX9_readPin_77 : decode cX9_readPin 77 = .ok (.bipush 20, 2) := by decide +kernel
theorem dX9_readPin_79 : decode cX9_readPin 79 = .ok (.invokevirtual 97, 3) := by decide +kernel
theorem dX9_readPin_82 : decode cX9_readPin 82 = .ok (.iastore, 1) := by decide +kernel
theorem dX9_readPin_83 : decode cX9_readPin 83 = .ok (.aload_n 0, 1) := by decide +kernel
theorem dX9_readPin_84 : decode cX9_readPin 84 = .ok (.getfield 17, 3) := by decide +kernel
theorem dX9_readPin_87 : decode cX9_readPin 87 = .ok (.iconst 1, 1) := by decide +kernel
theorem dX9_readPin_88 : decode cX9_readPin 88 = .ok (.dup2, 1) := by decide +kernel
theorem dX9_readPin_89 : decode cX9_readPin 89 = .ok (.iaload, 1) := by decide +kernel
theorem dX9_readPin_90 : decode cX9_readPin 90 = .ok (.iconst 1, 1) := by decide +kernel
theorem dX9_readPin_91 : decode cX9_readPin 91 = .ok (.iadd, 1) := by decide +kernel
theorem dX9_readPin_92 : decode cX9_readPin 92 = .ok (.iastore, 1) := by decide +kernel
theorem dX9_readPin_93 : decode cX9_readPin 93 = .ok (.return_, 1) := by decide +kernel
def f_M_readPin (N nx : Nat) (D : Dt) (P : Ft) (a0 : Nat) : Option Dt :=
  if kd nx a0 = 9 then
  nn (P a0 3) fun q1 =>
  if ab nx q1 3 1 = true then
  if D q1 (1 : Int32).toNatClampNeg = 8 then
    pas (upd2 D a0 10 1) fun D19 =>
    some D19
  else
    if ab nx q1 3 1 = true then
    nn (P a0 6) fun q4 =>
    nn (P a0 2) fun q5 =>
    if ab nx q5 3 1 = true then
    (f_M_number N nx D P a0 0 ((D q5 (1 : Int32).toNatClampNeg) - 1)).bind fun z7 =>
    if ab nx q4 3 (8 + (D q1 (1 : Int32).toNatClampNeg)) = true then
    pas (upd2 z7.2 q4 (8 + (D q1 (1 : Int32).toNatClampNeg)).toNatClampNeg z7.1) fun D8 =>
    (f_M_due N nx D8 P a0 44).bind fun z9 =>
    nn (P a0 7) fun q10 =>
    (f_M_number N nx z9 P a0 0 3).bind fun z11 =>
    if ab nx q10 3 (8 + (D q1 (1 : Int32).toNatClampNeg)) = true then
    pas (upd2 z11.2 q10 (8 + (D q1 (1 : Int32).toNatClampNeg)).toNatClampNeg z11.1) fun D12 =>
    (f_M_due N nx D12 P a0 44).bind fun z13 =>
    nn (P a0 8) fun q14 =>
    (f_M_number N nx z13 P a0 1 20).bind fun z15 =>
    if ab nx q14 3 (8 + (D q1 (1 : Int32).toNatClampNeg)) = true then
    pas (upd2 z15.2 q14 (8 + (D q1 (1 : Int32).toNatClampNeg)).toNatClampNeg z15.1) fun D16 =>
    if ab nx q1 3 1 = true then
    if ab nx q1 3 1 = true then
    pas (upd2 D16 q1 (1 : Int32).toNatClampNeg ((D16 q1 (1 : Int32).toNatClampNeg) + 1)) fun D18 =>
    some D18
    else none
    else none
    else none
    else none
    else none
    else none
    else none
  else none
  else none
theorem m_M_readPin : MV yX9_readPin cX9_readPin 2 none 0 := ⟨mT 1010 (by decide +kernel) rfl, mT 1009 (by decide +kernel) rfl, mT 29 (by decide +kernel) rfl, mT 68 (by decide +kernel) rfl, by decide +kernel, by decide +kernel, by decide +kernel⟩
set_option maxHeartbeats 4000000 in
set_option maxRecDepth 100000 in
theorem c_M_readPin (l : Launch) (cx : Cx) (nx N : Nat) (D : Dt) (P : Ft) (a0 : Nat) (z : Dt) (h : f_M_readPin N nx D P a0 = some z) : Ct l cx yX9_readPin cX9_readPin 2 none 3 [.ref (cx.2.2 + a0)] D P nx none z P := by
  refine x_met0 (by decide) (Nat.le_of_ble_eq_true rfl) ?_
  intro p e s m args below meth c X
  have X : XC p s m args meth c cx cX9_readPin 2 none "HeartPinsModel" "readPin" := X
  refine XW.sub (lv' := [(0, .ref (cx.2.2 + a0))]) [0] rfl ?_
  unfold f_M_readPin at h
  obtain ⟨hk0, h⟩ := grd h
  refine x_aload_n (pc := 0) X dX9_readPin_0 (i := 0) rfl 0 rfl ?_
  obtain ⟨q1, e1, h⟩ := nns h
  refine x_getr (ci := 9) (k := 3) (n := 26) (C := RX9) (T := TX9) (pc := 1) X dX9_readPin_1 hk0 rfl (by decide) w_892 rfl e1 ?_
  refine x_iconst (v := 1) (pc := 4) X dX9_readPin_4 (by decide) ?_
  obtain ⟨g2, h⟩ := grd h
  refine x_iald (pc := 5) X dX9_readPin_5 g2 ?_
  refine x_bipush (v := 8) (pc := 6) X dX9_readPin_6 (by decide) ?_
  refine x_icmp_ne (tgt := 17) (pc := 8) X dX9_readPin_8 (by decide) (fun c20 => ?_) (fun c20 => ?_)
  · have h := ite_f c20 h
    refine x_bipush (v := 8) (pc := 17) X dX9_readPin_17 (by decide) ?_
    refine x_aload_n (pc := 19) X dX9_readPin_19 (i := 0) rfl 0 rfl ?_
    refine x_getr (ci := 9) (k := 3) (n := 26) (C := RX9) (T := TX9) (pc := 20) X dX9_readPin_20 hk0 rfl (by decide) w_892 rfl e1 ?_
    refine x_iconst (v := 1) (pc := 23) X dX9_readPin_23 (by decide) ?_
    obtain ⟨g3, h⟩ := grd h
    refine x_iald (pc := 24) X dX9_readPin_24 g3 ?_
    refine x_iadd (pc := 25) X dX9_readPin_25 ?_
    refine x_istore_n (lv' := [(1, .int (8 + (D q1 (1 : Int32).toNatClampNeg))), (0, .ref (cx.2.2 + a0))]) (pc := 26) X dX9_readPin_26 (i := 1) rfl (by decide) rfl ?_
    refine x_aload_n (pc := 27) X dX9_readPin_27 (i := 0) rfl 1 rfl ?_
    obtain ⟨q4, e4, h⟩ := nns h
    refine x_getr (ci := 9) (k := 6) (n := 26) (C := RX9) (T := TX9) (pc := 28) X dX9_readPin_28 hk0 rfl (by decide) w_895 rfl e4 ?_
    refine x_iload_n (pc := 31) X dX9_readPin_31 (i := 1) rfl 0 rfl ?_
    refine x_aload_n (pc := 32) X dX9_readPin_32 (i := 0) rfl 1 rfl ?_
    refine x_iconst (v := 0) (pc := 33) X dX9_readPin_33 (by decide) ?_
    refine x_aload_n (pc := 34) X dX9_readPin_34 (i := 0) rfl 1 rfl ?_
    obtain ⟨q5, e5, h⟩ := nns h
    refine x_getr (ci := 9) (k := 2) (n := 26) (C := RX9) (T := TX9) (pc := 35) X dX9_readPin_35 hk0 rfl (by decide) w_891 rfl e5 ?_
    refine x_iconst (v := 1) (pc := 38) X dX9_readPin_38 (by decide) ?_
    obtain ⟨g6, h⟩ := grd h
    refine x_iald (pc := 39) X dX9_readPin_39 g6 ?_
    refine x_iconst (v := 1) (pc := 40) X dX9_readPin_40 (by decide) ?_
    refine x_isub (pc := 41) X dX9_readPin_41 ?_
    obtain ⟨z7, e7, h⟩ := bnds h
    refine x_callV (pc := 42) (As := [.int 0, .int ((D q5 (1 : Int32).toNatClampNeg) - 1)]) (st := [.int (8 + (D q1 (1 : Int32).toNatClampNeg)), .ref (cx.2.2 + q4)]) (st' := [.int z7.1, .int (8 + (D q1 (1 : Int32).toNatClampNeg)), .ref (cx.2.2 + q4)]) X (c_M_number l cx nx N D P _ _ _ z7 e7) dX9_readPin_42 w_999 m_M_number rfl hk0 (ci := 9) rfl rfl ⟨by decide, by decide⟩ ⟨Nat.zero_le _, Nat.zero_le _⟩ rfl (Nat.le_of_ble_eq_true rfl) rfl ?_
    obtain ⟨g8, h⟩ := grd h
    obtain ⟨D8, w8, h⟩ := pass h
    refine x_iast (D' := D8) (pc := 45) X dX9_readPin_45 g8 w8 ?_
    refine x_aload_n (pc := 46) X dX9_readPin_46 (i := 0) rfl 1 rfl ?_
    refine x_bipush (v := 44) (pc := 47) X dX9_readPin_47 (by decide) ?_
    obtain ⟨z9, e9, h⟩ := bnds h
    refine x_callV (pc := 49) (As := [.int 44]) (st := []) (st' := []) X (c_M_due l cx nx N D8 P _ _ z9 e9) dX9_readPin_49 w_1011 m_M_due rfl hk0 (ci := 9) rfl rfl ⟨by decide, by decide⟩ ⟨Nat.zero_le _, Nat.zero_le _⟩ rfl (Nat.le_of_ble_eq_true rfl) rfl ?_
    refine x_aload_n (pc := 52) X dX9_readPin_52 (i := 0) rfl 1 rfl ?_
    obtain ⟨q10, e10, h⟩ := nns h
    refine x_getr (ci := 9) (k := 7) (n := 26) (C := RX9) (T := TX9) (pc := 53) X dX9_readPin_53 hk0 rfl (by decide) w_896 rfl e10 ?_
    refine x_iload_n (pc := 56) X dX9_readPin_56 (i := 1) rfl 0 rfl ?_
    refine x_aload_n (pc := 57) X dX9_readPin_57 (i := 0) rfl 1 rfl ?_
    refine x_iconst (v := 0) (pc := 58) X dX9_readPin_58 (by decide) ?_
    refine x_iconst (v := 3) (pc := 59) X dX9_readPin_59 (by decide) ?_
    obtain ⟨z11, e11, h⟩ := bnds h
    refine x_callV (pc := 60) (As := [.int 0, .int 3]) (st := [.int (8 + (D q1 (1 : Int32).toNatClampNeg)), .ref (cx.2.2 + q10)]) (st' := [.int z11.1, .int (8 + (D q1 (1 : Int32).toNatClampNeg)), .ref (cx.2.2 + q10)]) X (c_M_number l cx nx N z9 P _ _ _ z11 e11) dX9_readPin_60 w_999 m_M_number rfl hk0 (ci := 9) rfl rfl ⟨by decide, by decide⟩ ⟨Nat.zero_le _, Nat.zero_le _⟩ rfl (Nat.le_of_ble_eq_true rfl) rfl ?_
    obtain ⟨g12, h⟩ := grd h
    obtain ⟨D12, w12, h⟩ := pass h
    refine x_iast (D' := D12) (pc := 63) X dX9_readPin_63 g12 w12 ?_
    refine x_aload_n (pc := 64) X dX9_readPin_64 (i := 0) rfl 1 rfl ?_
    refine x_bipush (v := 44) (pc := 65) X dX9_readPin_65 (by decide) ?_
    obtain ⟨z13, e13, h⟩ := bnds h
    refine x_callV (pc := 67) (As := [.int 44]) (st := []) (st' := []) X (c_M_due l cx nx N D12 P _ _ z13 e13) dX9_readPin_67 w_1011 m_M_due rfl hk0 (ci := 9) rfl rfl ⟨by decide, by decide⟩ ⟨Nat.zero_le _, Nat.zero_le _⟩ rfl (Nat.le_of_ble_eq_true rfl) rfl ?_
    refine x_aload_n (pc := 70) X dX9_readPin_70 (i := 0) rfl 1 rfl ?_
    obtain ⟨q14, e14, h⟩ := nns h
    refine x_getr (ci := 9) (k := 8) (n := 26) (C := RX9) (T := TX9) (pc := 71) X dX9_readPin_71 hk0 rfl (by decide) w_897 rfl e14 ?_
    refine x_iload_n (pc := 74) X dX9_readPin_74 (i := 1) rfl 0 rfl ?_
    refine x_aload_n (pc := 75) X dX9_readPin_75 (i := 0) rfl 1 rfl ?_
    refine x_iconst (v := 1) (pc := 76) X dX9_readPin_76 (by decide) ?_
    refine x_bipush (v := 20) (pc := 77) X dX9_readPin_77 (by decide) ?_
    obtain ⟨z15, e15, h⟩ := bnds h
    refine x_callV (pc := 79) (As := [.int 1, .int 20]) (st := [.int (8 + (D q1 (1 : Int32).toNatClampNeg)), .ref (cx.2.2 + q14)]) (st' := [.int z15.1, .int (8 + (D q1 (1 : Int32).toNatClampNeg)), .ref (cx.2.2 + q14)]) X (c_M_number l cx nx N z13 P _ _ _ z15 e15) dX9_readPin_79 w_999 m_M_number rfl hk0 (ci := 9) rfl rfl ⟨by decide, by decide⟩ ⟨Nat.zero_le _, Nat.zero_le _⟩ rfl (Nat.le_of_ble_eq_true rfl) rfl ?_
    obtain ⟨g16, h⟩ := grd h
    obtain ⟨D16, w16, h⟩ := pass h
    refine x_iast (D' := D16) (pc := 82) X dX9_readPin_82 g16 w16 ?_
    refine x_aload_n (pc := 83) X dX9_readPin_83 (i := 0) rfl 1 rfl ?_
    refine x_getr (ci := 9) (k := 3) (n := 26) (C := RX9) (T := TX9) (pc := 84) X dX9_readPin_84 hk0 rfl (by decide) w_892 rfl e1 ?_
    refine x_iconst (v := 1) (pc := 87) X dX9_readPin_87 (by decide) ?_
    refine x_dup2 (pc := 88) X dX9_readPin_88 rfl rfl ?_
    obtain ⟨g17, h⟩ := grd h
    refine x_iald (pc := 89) X dX9_readPin_89 g17 ?_
    refine x_iconst (v := 1) (pc := 90) X dX9_readPin_90 (by decide) ?_
    refine x_iadd (pc := 91) X dX9_readPin_91 ?_
    obtain ⟨g18, h⟩ := grd h
    obtain ⟨D18, w18, h⟩ := pass h
    refine x_iast (D' := D18) (pc := 92) X dX9_readPin_92 g18 w18 ?_
    obtain rfl := Option.some.inj h
    exact x_vret (pc := 93) X dX9_readPin_93
  · have h := ite_t c20 h
    refine x_aload_n (pc := 11) X dX9_readPin_11 (i := 0) rfl 0 rfl ?_
    refine x_iconst (v := 1) (pc := 12) X dX9_readPin_12 (by decide) ?_
    obtain ⟨D19, w19, h⟩ := pass h
    refine x_putz (ci := 9) (k := 10) (n := 26) (C := RX9) (T := TX9) (D' := D19) (pc := 13) X dX9_readPin_13 hk0 rfl (by decide) w_899 rfl (by decide +kernel) rfl (by decide) w19 ?_
    obtain rfl := Option.some.inj h
    exact x_vret (pc := 16) X dX9_readPin_16
theorem dX9_tellHeart_0 : decode cX9_tellHeart 0 = .ok (.aload_n 0, 1) := by decide +kernel
theorem dX9_tellHeart_1 : decode cX9_tellHeart 1 = .ok (.getfield 20, 3) := by decide +kernel
theorem dX9_tellHeart_4 : decode cX9_tellHeart 4 = .ok (.iconst 3, 1) := by decide +kernel
theorem dX9_tellHeart_5 : decode cX9_tellHeart 5 = .ok (.iload_n 1, 1) := by decide +kernel
theorem dX9_tellHeart_6 : decode cX9_tellHeart 6 = .ok (.iastore, 1) := by decide +kernel
theorem dX9_tellHeart_7 : decode cX9_tellHeart 7 = .ok (.aload_n 0, 1) := by decide +kernel
theorem dX9_tellHeart_8 : decode cX9_tellHeart 8 = .ok (.getfield 20, 3) := by decide +kernel
theorem dX9_tellHeart_11 : decode cX9_tellHeart 11 = .ok (.iconst 4, 1) := by decide +kernel
theorem dX9_tellHeart_12 : decode cX9_tellHeart 12 = .ok (.iload_n 2, 1) := by decide +kernel
theorem dX9_tellHeart_13 : decode cX9_tellHeart 13 = .ok (.iastore, 1) := by decide +kernel
theorem dX9_tellHeart_14 : decode cX9_tellHeart 14 = .ok (.aload_n 0, 1) := by decide +kernel
theorem dX9_tellHeart_15 : decode cX9_tellHeart 15 = .ok (.getfield 20, 3) := by decide +kernel
theorem dX9_tellHeart_18 : decode cX9_tellHeart 18 = .ok (.iconst 5, 1) := by decide +kernel
theorem dX9_tellHeart_19 : decode cX9_tellHeart 19 = .ok (.iload_n 3, 1) := by decide +kernel
theorem dX9_tellHeart_20 : decode cX9_tellHeart 20 = .ok (.iastore, 1) := by decide +kernel
theorem dX9_tellHeart_21 : decode cX9_tellHeart 21 = .ok (.return_, 1) := by decide +kernel
def f_M_tellHeart (N nx : Nat) (D : Dt) (P : Ft) (a0 : Nat) (i1 : Int32) (i2 : Int32) (i3 : Int32) : Option Dt :=
  if kd nx a0 = 9 then
  nn (P a0 4) fun q1 =>
  if ab nx q1 3 3 = true then
  pas (upd2 D q1 (3 : Int32).toNatClampNeg i1) fun D2 =>
  if ab nx q1 3 4 = true then
  pas (upd2 D2 q1 (4 : Int32).toNatClampNeg i2) fun D3 =>
  if ab nx q1 3 5 = true then
  pas (upd2 D3 q1 (5 : Int32).toNatClampNeg i3) fun D4 =>
  some D4
  else none
  else none
  else none
  else none
theorem m_M_tellHeart : MV yX9_tellHeart cX9_tellHeart 4 none 3 := ⟨mT 876 (by decide +kernel) rfl, mT 875 (by decide +kernel) rfl, mT 19 (by decide +kernel) rfl, mT 68 (by decide +kernel) rfl, by decide +kernel, by decide +kernel, by decide +kernel⟩
set_option maxHeartbeats 4000000 in
set_option maxRecDepth 100000 in
theorem c_M_tellHeart (l : Launch) (cx : Cx) (nx N : Nat) (D : Dt) (P : Ft) (a0 : Nat) (i1 : Int32) (i2 : Int32) (i3 : Int32) (z : Dt) (h : f_M_tellHeart N nx D P a0 i1 i2 i3 = some z) : Ct l cx yX9_tellHeart cX9_tellHeart 4 none 0 [.ref (cx.2.2 + a0), .int i1, .int i2, .int i3] D P nx none z P := by
  refine x_met0 (by decide) (Nat.le_of_ble_eq_true rfl) ?_
  intro p e s m args below meth c X
  have X : XC p s m args meth c cx cX9_tellHeart 4 none "HeartPinsModel" "tellHeart" := X
  refine XW.sub (lv' := [(0, .ref (cx.2.2 + a0)), (1, .int i1), (2, .int i2), (3, .int i3)]) [0, 1, 2, 3] rfl ?_
  unfold f_M_tellHeart at h
  obtain ⟨hk0, h⟩ := grd h
  refine x_aload_n (pc := 0) X dX9_tellHeart_0 (i := 0) rfl 0 rfl ?_
  obtain ⟨q1, e1, h⟩ := nns h
  refine x_getr (ci := 9) (k := 4) (n := 26) (C := RX9) (T := TX9) (pc := 1) X dX9_tellHeart_1 hk0 rfl (by decide) w_893 rfl e1 ?_
  refine x_iconst (v := 3) (pc := 4) X dX9_tellHeart_4 (by decide) ?_
  refine x_iload_n (pc := 5) X dX9_tellHeart_5 (i := 1) rfl 1 rfl ?_
  obtain ⟨g2, h⟩ := grd h
  obtain ⟨D2, w2, h⟩ := pass h
  refine x_iast (D' := D2) (pc := 6) X dX9_tellHeart_6 g2 w2 ?_
  refine x_aload_n (pc := 7) X dX9_tellHeart_7 (i := 0) rfl 0 rfl ?_
  refine x_getr (ci := 9) (k := 4) (n := 26) (C := RX9) (T := TX9) (pc := 8) X dX9_tellHeart_8 hk0 rfl (by decide) w_893 rfl e1 ?_
  refine x_iconst (v := 4) (pc := 11) X dX9_tellHeart_11 (by decide) ?_
  refine x_iload_n (pc := 12) X dX9_tellHeart_12 (i := 2) rfl 2 rfl ?_
  obtain ⟨g3, h⟩ := grd h
  obtain ⟨D3, w3, h⟩ := pass h
  refine x_iast (D' := D3) (pc := 13) X dX9_tellHeart_13 g3 w3 ?_
  refine x_aload_n (pc := 14) X dX9_tellHeart_14 (i := 0) rfl 0 rfl ?_
  refine x_getr (ci := 9) (k := 4) (n := 26) (C := RX9) (T := TX9) (pc := 15) X dX9_tellHeart_15 hk0 rfl (by decide) w_893 rfl e1 ?_
  refine x_iconst (v := 5) (pc := 18) X dX9_tellHeart_18 (by decide) ?_
  refine x_iload_n (pc := 19) X dX9_tellHeart_19 (i := 3) rfl 3 rfl ?_
  obtain ⟨g4, h⟩ := grd h
  obtain ⟨D4, w4, h⟩ := pass h
  refine x_iast (D' := D4) (pc := 20) X dX9_tellHeart_20 g4 w4 ?_
  obtain rfl := Option.some.inj h
  exact x_vret (pc := 21) X dX9_tellHeart_21
theorem dX9_readHeart_0 : decode cX9_readHeart 0 = .ok (.aload_n 0, 1) := by decide +kernel
theorem dX9_readHeart_1 : decode cX9_readHeart 1 = .ok (.iconst 0, 1) := by decide +kernel
theorem dX9_readHeart_2 : decode cX9_readHeart 2 = .ok (.bipush 60, 2) := by decide +kernel
theorem dX9_readHeart_4 : decode cX9_readHeart 4 = .ok (.invokevirtual 97, 3) := by decide +kernel
theorem dX9_readHeart_7 : decode cX9_readHeart 7 = .ok (.istore_n 1, 1) := by decide +kernel
theorem dX9_readHeart_8 : decode cX9_readHeart 8 = .ok (.aload_n 0, 1) := by decide +kernel
theorem dX9_readHeart_9 : decode cX9_readHeart 9 = .ok (.bipush 44, 2) := by decide +kernel
theorem dX9_readHeart_11 : decode cX9_readHeart 11 = .ok (.invokevirtual 101, 3) := by decide +kernel
theorem dX9_readHeart_14 : decode cX9_readHeart 14 = .ok (.aload_n 0, 1) := by decide +kernel
theorem dX9_readHeart_15 : decode cX9_readHeart 15 = .ok (.iconst 1, 1) := by decide +kernel
theorem dX9_readHeart_16 : decode cX9_readHeart 16 = .ok (.bipush 20, 2) := by decide +kernel
theorem dX9_readHeart_18 : decode cX9_readHeart 18 = .ok (.invokevirtual 97, 3) := by decide +kernel
theorem dX9_readHeart_21 : decode cX9_readHeart 21 = .ok (.istore_n 2, 1) := by decide +kernel
theorem dX9_readHeart_22 : decode cX9_readHeart 22 = .ok (.aload_n 0, 1) := by decide +kernel
theorem dX9_readHeart_23 : decode cX9_readHeart 23 = .ok (.bipush 44, 2) := by decide +kernel
theorem dX9_readHeart_25 : decode cX9_readHeart 25 = .ok (.invokevirtual 101, 3) := by decide +kernel
theorem dX9_readHeart_28 : decode cX9_readHeart 28 = .ok (.aload_n 0, 1) := by decide +kernel
theorem dX9_readHeart_29 : decode cX9_readHeart 29 = .ok (.iconst 1, 1) := by decide +kernel
theorem dX9_readHeart_30 : decode cX9_readHeart 30 = .ok (.bipush 30, 2) := by decide +kernel
theorem dX9_readHeart_32 : decode cX9_readHeart 32 = .ok (.invokevirtual 97, 3) := by decide +kernel
theorem dX9_readHeart_35 : decode cX9_readHeart 35 = .ok (.istore_n 3, 1) := by decide +kernel
theorem dX9_readHeart_36 : decode cX9_readHeart 36 = .ok (.aload_n 0, 1) := by decide +kernel
theorem dX9_readHeart_37 : decode cX9_readHeart 37 = .ok (.getfield 89, 3) := by decide +kernel
theorem dX9_readHeart_40 : decode cX9_readHeart 40 = .ok (.ifCond .ne 10, 3) := by decide +kernel
theorem dX9_readHeart_43 : decode cX9_readHeart 43 = .ok (.aload_n 0, 1) := by decide +kernel
theorem dX9_readHeart_44 : decode cX9_readHeart 44 = .ok (.iload_n 1, 1) := by decide +kernel
theorem dX9_readHeart_45 : decode cX9_readHeart 45 = .ok (.iload_n 2, 1) := by decide +kernel
theorem dX9_readHeart_46 : decode cX9_readHeart 46 = .ok (.iload_n 3, 1) := by decide +kernel
theorem dX9_readHeart_47 : decode cX9_readHeart 47 = .ok (.invokevirtual 105, 3) := by decide +kernel
theorem dX9_readHeart_50 : decode cX9_readHeart 50 = .ok (.return_, 1) := by decide +kernel
def f_M_readHeart (N nx : Nat) (D : Dt) (P : Ft) (a0 : Nat) : Option Dt :=
  if kd nx a0 = 9 then
  (f_M_number N nx D P a0 0 60).bind fun z1 =>
  (f_M_due N nx z1.2 P a0 44).bind fun z2 =>
  (f_M_number N nx z2 P a0 1 20).bind fun z3 =>
  (f_M_due N nx z3.2 P a0 44).bind fun z4 =>
  (f_M_number N nx z4 P a0 1 30).bind fun z5 =>
  if z5.2 a0 10 = 0 then
    (f_M_tellHeart N nx z5.2 P a0 z1.1 z3.1 z5.1).bind fun z6 =>
    some z6
  else
    some z5.2
  else none
theorem m_M_readHeart : MV yX9_readHeart cX9_readHeart 4 none 0 := ⟨mT 1018 (by decide +kernel) rfl, mT 1017 (by decide +kernel) rfl, mT 31 (by decide +kernel) rfl, mT 68 (by decide +kernel) rfl, by decide +kernel, by decide +kernel, by decide +kernel⟩
set_option maxHeartbeats 4000000 in
set_option maxRecDepth 100000 in
theorem c_M_readHeart (l : Launch) (cx : Cx) (nx N : Nat) (D : Dt) (P : Ft) (a0 : Nat) (z : Dt) (h : f_M_readHeart N nx D P a0 = some z) : Ct l cx yX9_readHeart cX9_readHeart 4 none 3 [.ref (cx.2.2 + a0)] D P nx none z P := by
  refine x_met0 (by decide) (Nat.le_of_ble_eq_true rfl) ?_
  intro p e s m args below meth c X
  have X : XC p s m args meth c cx cX9_readHeart 4 none "HeartPinsModel" "readHeart" := X
  refine XW.sub (lv' := [(0, .ref (cx.2.2 + a0))]) [0] rfl ?_
  unfold f_M_readHeart at h
  obtain ⟨hk0, h⟩ := grd h
  refine x_aload_n (pc := 0) X dX9_readHeart_0 (i := 0) rfl 0 rfl ?_
  refine x_iconst (v := 0) (pc := 1) X dX9_readHeart_1 (by decide) ?_
  refine x_bipush (v := 60) (pc := 2) X dX9_readHeart_2 (by decide) ?_
  obtain ⟨z1, e1, h⟩ := bnds h
  refine x_callV (pc := 4) (As := [.int 0, .int 60]) (st := []) (st' := [.int z1.1]) X (c_M_number l cx nx N D P _ _ _ z1 e1) dX9_readHeart_4 w_999 m_M_number rfl hk0 (ci := 9) rfl rfl ⟨by decide, by decide⟩ ⟨Nat.zero_le _, Nat.zero_le _⟩ rfl (Nat.le_of_ble_eq_true rfl) rfl ?_
  refine x_istore_n (lv' := [(1, .int z1.1), (0, .ref (cx.2.2 + a0))]) (pc := 7) X dX9_readHeart_7 (i := 1) rfl (by decide) rfl ?_
  refine x_aload_n (pc := 8) X dX9_readHeart_8 (i := 0) rfl 1 rfl ?_
  refine x_bipush (v := 44) (pc := 9) X dX9_readHeart_9 (by decide) ?_
  obtain ⟨z2, e2, h⟩ := bnds h
  refine x_callV (pc := 11) (As := [.int 44]) (st := []) (st' := []) X (c_M_due l cx nx N z1.2 P _ _ z2 e2) dX9_readHeart_11 w_1011 m_M_due rfl hk0 (ci := 9) rfl rfl ⟨by decide, by decide⟩ ⟨Nat.zero_le _, Nat.zero_le _⟩ rfl (Nat.le_of_ble_eq_true rfl) rfl ?_
  refine x_aload_n (pc := 14) X dX9_readHeart_14 (i := 0) rfl 1 rfl ?_
  refine x_iconst (v := 1) (pc := 15) X dX9_readHeart_15 (by decide) ?_
  refine x_bipush (v := 20) (pc := 16) X dX9_readHeart_16 (by decide) ?_
  obtain ⟨z3, e3, h⟩ := bnds h
  refine x_callV (pc := 18) (As := [.int 1, .int 20]) (st := []) (st' := [.int z3.1]) X (c_M_number l cx nx N z2 P _ _ _ z3 e3) dX9_readHeart_18 w_999 m_M_number rfl hk0 (ci := 9) rfl rfl ⟨by decide, by decide⟩ ⟨Nat.zero_le _, Nat.zero_le _⟩ rfl (Nat.le_of_ble_eq_true rfl) rfl ?_
  refine x_istore_n (lv' := [(2, .int z3.1), (1, .int z1.1), (0, .ref (cx.2.2 + a0))]) (pc := 21) X dX9_readHeart_21 (i := 2) rfl (by decide) rfl ?_
  refine x_aload_n (pc := 22) X dX9_readHeart_22 (i := 0) rfl 2 rfl ?_
  refine x_bipush (v := 44) (pc := 23) X dX9_readHeart_23 (by decide) ?_
  obtain ⟨z4, e4, h⟩ := bnds h
  refine x_callV (pc := 25) (As := [.int 44]) (st := []) (st' := []) X (c_M_due l cx nx N z3.2 P _ _ z4 e4) dX9_readHeart_25 w_1011 m_M_due rfl hk0 (ci := 9) rfl rfl ⟨by decide, by decide⟩ ⟨Nat.zero_le _, Nat.zero_le _⟩ rfl (Nat.le_of_ble_eq_true rfl) rfl ?_
  refine x_aload_n (pc := 28) X dX9_readHeart_28 (i := 0) rfl 2 rfl ?_
  refine x_iconst (v := 1) (pc := 29) X dX9_readHeart_29 (by decide) ?_
  refine x_bipush (v := 30) (pc := 30) X dX9_readHeart_30 (by decide) ?_
  obtain ⟨z5, e5, h⟩ := bnds h
  refine x_callV (pc := 32) (As := [.int 1, .int 30]) (st := []) (st' := [.int z5.1]) X (c_M_number l cx nx N z4 P _ _ _ z5 e5) dX9_readHeart_32 w_999 m_M_number rfl hk0 (ci := 9) rfl rfl ⟨by decide, by decide⟩ ⟨Nat.zero_le _, Nat.zero_le _⟩ rfl (Nat.le_of_ble_eq_true rfl) rfl ?_
  refine x_istore_n (lv' := [(3, .int z5.1), (2, .int z3.1), (1, .int z1.1), (0, .ref (cx.2.2 + a0))]) (pc := 35) X dX9_readHeart_35 (i := 3) rfl (by decide) rfl ?_
  refine x_aload_n (pc := 36) X dX9_readHeart_36 (i := 0) rfl 3 rfl ?_
  refine x_geti (ci := 9) (k := 10) (n := 26) (C := RX9) (T := TX9) (pc := 37) X dX9_readHeart_37 hk0 rfl (by decide) w_899 rfl ?_
  refine x_if_ne (tgt := 50) (pc := 40) X dX9_readHeart_40 (by decide) (fun c7 => ?_) (fun c7 => ?_)
  · have h := ite_f c7 h
    obtain rfl := Option.some.inj h
    exact x_vret (pc := 50) X dX9_readHeart_50
  · have h := ite_t c7 h
    refine x_aload_n (pc := 43) X dX9_readHeart_43 (i := 0) rfl 3 rfl ?_
    refine x_iload_n (pc := 44) X dX9_readHeart_44 (i := 1) rfl 2 rfl ?_
    refine x_iload_n (pc := 45) X dX9_readHeart_45 (i := 2) rfl 1 rfl ?_
    refine x_iload_n (pc := 46) X dX9_readHeart_46 (i := 3) rfl 0 rfl ?_
    obtain ⟨z6, e6, h⟩ := bnds h
    refine x_callV (pc := 47) (As := [.int z1.1, .int z3.1, .int z5.1]) (st := []) (st' := []) X (c_M_tellHeart l cx nx N z5.2 P _ _ _ _ z6 e6) dX9_readHeart_47 w_873 m_M_tellHeart rfl hk0 (ci := 9) rfl rfl ⟨by decide, by decide⟩ ⟨Nat.zero_le _, Nat.zero_le _⟩ rfl (Nat.le_of_ble_eq_true rfl) rfl ?_
    obtain rfl := Option.some.inj h
    exact x_vret (pc := 50) X dX9_readHeart_50
theorem dX9_readItem_0 : decode cX9_readItem 0 = .ok (.aload_n 0, 1) := by decide +kernel
theorem dX9_readItem_1 : decode cX9_readItem 1 = .ok (.invokevirtual 85, 3) := by decide +kernel
theorem dX9_readItem_4 : decode cX9_readItem 4 = .ok (.istore_n 1, 1) := by decide +kernel
theorem dX9_readItem_5 : decode cX9_readItem 5 = .ok (.aload_n 0, 1) := by decide +kernel
theorem dX9_readItem_6 : decode cX9_readItem 6 = .ok (.dup, 1) := by decide +kernel
theorem dX9_readItem_7 : decode cX9_readItem 7 = .ok (.getfield 82, 3) := by decide +kernel
theorem dX9_readItem_10 : decode cX9_readItem 10 = .ok (.iconst 1, 1) := by decide +kernel
theorem dX9_readItem_11 : decode cX9_readItem 11 = .ok (.iadd, 1) := by decide +kernel
theorem dX9_readItem_12 : decode cX9_readItem 12 = .ok (.putfield 82, 3) := by decide +kernel
theorem dX9_readItem_15 : decode cX9_readItem 15 = .ok (.iload_n 1, 1) := by decide +kernel
theorem dX9_readItem_16 : decode cX9_readItem 16 = .ok (.lookupswitch 57 #[(104, 50), (112, 36), (116, 43)], 36) := by decide +kernel
theorem dX9_readItem_52 : decode cX9_readItem 52 = .ok (.aload_n 0, 1) := by decide +kernel
theorem dX9_readItem_53 : decode cX9_readItem 53 = .ok (.invokevirtual 109, 3) := by decide +kernel
theorem dX9_readItem_56 : decode cX9_readItem 56 = .ok (.goto 22, 3) := by decide +kernel
theorem dX9_readItem_59 : decode cX9_readItem 59 = .ok (.aload_n 0, 1) := by decide +kernel
theorem dX9_readItem_60 : decode cX9_readItem 60 = .ok (.invokevirtual 112, 3) := by decide +kernel
theorem dX9_readItem_63 : decode cX9_readItem 63 = .ok (.goto 15, 3) := by decide +kernel
theorem dX9_readItem_66 : decode cX9_readItem 66 = .ok (.aload_n 0, 1) := by decide +kernel
theorem dX9_readItem_67 : decode cX9_readItem 67 = .ok (.invokevirtual 115, 3) := by decide +kernel
theorem dX9_readItem_70 : decode cX9_readItem 70 = .ok (.goto 8, 3) := by decide +kernel
theorem dX9_readItem_73 : decode cX9_readItem 73 = .ok (.aload_n 0, 1) := by decide +kernel
theorem dX9_readItem_74 : decode cX9_readItem 74 = .ok (.iconst 1, 1) := by decide +kernel
theorem dX9_readItem_75 : decode cX9_readItem 75 = .ok (.putfield 89, 3) := by decide +kernel
theorem dX9_readItem_78 : decode cX9_readItem 78 = .ok (.aload_n 0, 1) := by decide +kernel
theorem dX9_readItem_79 : decode cX9_readItem 79 = .ok (.bipush 59, 2) := by decide +kernel
theorem dX9_readItem_81 : decode cX9_readItem 81 = .ok (.invokevirtual 101, 3) := by decide +kernel
theorem dX9_readItem_84 : decode cX9_readItem 84 = .ok (.return_, 1) := by decide +kernel
def f_M_readItem_78 (N nx : Nat) (D : Dt) (P : Ft) (a0 : Nat) : Option Dt :=
  (f_M_due N nx D P a0 59).bind fun z4 =>
  some z4
def f_M_readItem (N nx : Nat) (D : Dt) (P : Ft) (a0 : Nat) : Option Dt :=
  if kd nx a0 = 9 then
  (f_M_here N nx D P a0).bind fun z1 =>
  pas (upd2 D a0 9 ((D a0 9) + 1)) fun D2 =>
  if z1 = 104 then
    (f_M_readHeart N nx D2 P a0).bind fun z3 =>
    f_M_readItem_78 N nx z3 P a0
  else
    if z1 = 112 then
      (f_M_readPerson N nx D2 P a0).bind fun z5 =>
      f_M_readItem_78 N nx z5 P a0
    else
      if z1 = 116 then
        (f_M_readPin N nx D2 P a0).bind fun z6 =>
        f_M_readItem_78 N nx z6 P a0
      else
        pas (upd2 D2 a0 10 1) fun D7 =>
        f_M_readItem_78 N nx D7 P a0
  else none
theorem m_M_readItem : MV yX9_readItem cX9_readItem 2 none 0 := ⟨mT 990 (by decide +kernel) rfl, mT 989 (by decide +kernel) rfl, mT 24 (by decide +kernel) rfl, mT 68 (by decide +kernel) rfl, by decide +kernel, by decide +kernel, by decide +kernel⟩
set_option maxHeartbeats 4000000 in
set_option maxRecDepth 100000 in
theorem c_M_readItem (l : Launch) (cx : Cx) (nx N : Nat) (D : Dt) (P : Ft) (a0 : Nat) (z : Dt) (h : f_M_readItem N nx D P a0 = some z) : Ct l cx yX9_readItem cX9_readItem 2 none 4 [.ref (cx.2.2 + a0)] D P nx none z P := by
  refine x_met0 (by decide) (Nat.le_of_ble_eq_true rfl) ?_
  intro p e s m args below meth c X
  have X : XC p s m args meth c cx cX9_readItem 2 none "HeartPinsModel" "readItem" := X
  refine XW.sub (lv' := [(0, .ref (cx.2.2 + a0))]) [0] rfl ?_
  unfold f_M_readItem at h
  obtain ⟨hk0, h⟩ := grd h
  have hJ78 : ∀ (D : Dt), f_M_readItem_78 N nx D P a0 = some z → XW p l e (rmk 4) s m args below meth c (MQ below (Qx cx none z P nx) args s 0 0 (AA cx)) cx 2 D P nx 0 0 78 [(0, .ref (cx.2.2 + a0))] [] := by
    intro D h
    unfold f_M_readItem_78 at h
    refine x_aload_n (pc := 78) X dX9_readItem_78 (i := 0) rfl 0 rfl ?_
    refine x_bipush (v := 59) (pc := 79) X dX9_readItem_79 (by decide) ?_
    obtain ⟨z4, e4, h⟩ := bnds h
    refine x_callV (pc := 81) (As := [.int 59]) (st := []) (st' := []) X (c_M_due l cx nx N D P _ _ z4 e4) dX9_readItem_81 w_1011 m_M_due rfl hk0 (ci := 9) rfl rfl ⟨by decide, by decide⟩ ⟨Nat.zero_le _, Nat.zero_le _⟩ rfl (Nat.le_of_ble_eq_true rfl) rfl ?_
    obtain rfl := Option.some.inj h
    exact x_vret (pc := 84) X dX9_readItem_84
  refine x_aload_n (pc := 0) X dX9_readItem_0 (i := 0) rfl 0 rfl ?_
  obtain ⟨z1, e1, h⟩ := bnds h
  refine x_callV (pc := 1) (As := []) (st := []) (st' := [.int z1]) X (c_M_here l cx nx N D P _ z1 e1) dX9_readItem_1 w_991 m_M_here rfl hk0 (ci := 9) rfl rfl ⟨by decide, by decide⟩ ⟨Nat.zero_le _, Nat.zero_le _⟩ rfl (Nat.le_of_ble_eq_true rfl) rfl ?_
  refine x_istore_n (lv' := [(1, .int z1), (0, .ref (cx.2.2 + a0))]) (pc := 4) X dX9_readItem_4 (i := 1) rfl (by decide) rfl ?_
  refine x_aload_n (pc := 5) X dX9_readItem_5 (i := 0) rfl 1 rfl ?_
  refine x_dup (pc := 6) X dX9_readItem_6 rfl ?_
  refine x_geti (ci := 9) (k := 9) (n := 26) (C := RX9) (T := TX9) (pc := 7) X dX9_readItem_7 hk0 rfl (by decide) w_898 rfl ?_
  refine x_iconst (v := 1) (pc := 10) X dX9_readItem_10 (by decide) ?_
  refine x_iadd (pc := 11) X dX9_readItem_11 ?_
  obtain ⟨D2, w2, h⟩ := pass h
  refine x_puti (ci := 9) (k := 9) (n := 26) (C := RX9) (T := TX9) (D' := D2) (pc := 12) X dX9_readItem_12 hk0 rfl (by decide) w_898 rfl (by decide +kernel) rfl w2 ?_
  refine x_iload_n (pc := 15) X dX9_readItem_15 (i := 1) rfl 0 rfl ?_
  by_cases cs16_0 : z1 = 104
  · have h := ite_t cs16_0 h
    refine x_lsw (off := 50) (tgt := 66) (pc := 16) X 104 dX9_readItem_16 (by decide) cs16_0 rfl (by decide) ?_
    refine x_aload_n (pc := 66) X dX9_readItem_66 (i := 0) rfl 1 rfl ?_
    obtain ⟨z3, e3, h⟩ := bnds h
    refine x_callV (pc := 67) (As := []) (st := []) (st' := []) X (c_M_readHeart l cx nx N D2 P _ z3 e3) dX9_readItem_67 w_1015 m_M_readHeart rfl hk0 (ci := 9) rfl rfl ⟨by decide, by decide⟩ ⟨Nat.zero_le _, Nat.zero_le _⟩ rfl (Nat.le_of_ble_eq_true rfl) rfl ?_
    refine x_goto (tgt := 78) (pc := 70) X dX9_readItem_70 (by decide) ?_
    exact XW.sub [1] rfl (hJ78 _ h)
  · have h := ite_f cs16_0 h
    by_cases cs16_1 : z1 = 112
    · have h := ite_t cs16_1 h
      refine x_lsw (off := 36) (tgt := 52) (pc := 16) X 112 dX9_readItem_16 (by decide) cs16_1 rfl (by decide) ?_
      refine x_aload_n (pc := 52) X dX9_readItem_52 (i := 0) rfl 1 rfl ?_
      obtain ⟨z5, e5, h⟩ := bnds h
      refine x_callV (pc := 53) (As := []) (st := []) (st' := []) X (c_M_readPerson l cx nx N D2 P _ z5 e5) dX9_readItem_53 w_995 m_M_readPerson rfl hk0 (ci := 9) rfl rfl ⟨by decide, by decide⟩ ⟨Nat.zero_le _, Nat.zero_le _⟩ rfl (Nat.le_of_ble_eq_true rfl) rfl ?_
      refine x_goto (tgt := 78) (pc := 56) X dX9_readItem_56 (by decide) ?_
      exact XW.sub [1] rfl (hJ78 _ h)
    · have h := ite_f cs16_1 h
      by_cases cs16_2 : z1 = 116
      · have h := ite_t cs16_2 h
        refine x_lsw (off := 43) (tgt := 59) (pc := 16) X 116 dX9_readItem_16 (by decide) cs16_2 rfl (by decide) ?_
        refine x_aload_n (pc := 59) X dX9_readItem_59 (i := 0) rfl 1 rfl ?_
        obtain ⟨z6, e6, h⟩ := bnds h
        refine x_callV (pc := 60) (As := []) (st := []) (st' := []) X (c_M_readPin l cx nx N D2 P _ z6 e6) dX9_readItem_60 w_1007 m_M_readPin rfl hk0 (ci := 9) rfl rfl ⟨by decide, by decide⟩ ⟨Nat.zero_le _, Nat.zero_le _⟩ rfl (Nat.le_of_ble_eq_true rfl) rfl ?_
        refine x_goto (tgt := 78) (pc := 63) X dX9_readItem_63 (by decide) ?_
        exact XW.sub [1] rfl (hJ78 _ h)
      · have h := ite_f cs16_2 h
        refine x_lswd (off := 57) (tgt := 73) (pc := 16) X dX9_readItem_16 (by decide) (by show Op.lookupswitch.offset [(104, 50), (112, 36), (116, 43)] _ _ = _; rw [lv_osw (k := 104) (a := 104) cs16_0 rfl, lv_osw (k := 112) (a := 112) cs16_1 rfl, lv_osw (k := 116) (a := 116) cs16_2 rfl]; rfl) (by decide) ?_
        refine x_aload_n (pc := 73) X dX9_readItem_73 (i := 0) rfl 1 rfl ?_
        refine x_iconst (v := 1) (pc := 74) X dX9_readItem_74 (by decide) ?_
        obtain ⟨D7, w7, h⟩ := pass h
        refine x_putz (ci := 9) (k := 10) (n := 26) (C := RX9) (T := TX9) (D' := D7) (pc := 75) X dX9_readItem_75 hk0 rfl (by decide) w_899 rfl (by decide +kernel) rfl (by decide) w7 ?_
        exact XW.sub [1] rfl (hJ78 _ h)
theorem dX9_begin_0 : decode cX9_begin 0 = .ok (.aload_n 0, 1) := by decide +kernel
theorem dX9_begin_1 : decode cX9_begin 1 = .ok (.iconst 0, 1) := by decide +kernel
theorem dX9_begin_2 : decode cX9_begin 2 = .ok (.putfield 89, 3) := by decide +kernel
theorem dX9_begin_5 : decode cX9_begin 5 = .ok (.aload_n 0, 1) := by decide +kernel
theorem dX9_begin_6 : decode cX9_begin 6 = .ok (.getfield 13, 3) := by decide +kernel
theorem dX9_begin_9 : decode cX9_begin 9 = .ok (.iconst 1, 1) := by decide +kernel
theorem dX9_begin_10 : decode cX9_begin 10 = .ok (.iconst 0, 1) := by decide +kernel
theorem dX9_begin_11 : decode cX9_begin 11 = .ok (.iastore, 1) := by decide +kernel
theorem dX9_begin_12 : decode cX9_begin 12 = .ok (.aload_n 0, 1) := by decide +kernel
theorem dX9_begin_13 : decode cX9_begin 13 = .ok (.getfield 17, 3) := by decide +kernel
theorem dX9_begin_16 : decode cX9_begin 16 = .ok (.iconst 1, 1) := by decide +kernel
theorem dX9_begin_17 : decode cX9_begin 17 = .ok (.iconst 0, 1) := by decide +kernel
theorem dX9_begin_18 : decode cX9_begin 18 = .ok (.iastore, 1) := by decide +kernel
theorem dX9_begin_19 : decode cX9_begin 19 = .ok (.aload_n 0, 1) := by decide +kernel
theorem dX9_begin_20 : decode cX9_begin 20 = .ok (.bipush 12, 2) := by decide +kernel
theorem dX9_begin_22 : decode cX9_begin 22 = .ok (.iconst 5, 1) := by decide +kernel
theorem dX9_begin_23 : decode cX9_begin 23 = .ok (.bipush 14, 2) := by decide +kernel
theorem dX9_begin_25 : decode cX9_begin 25 = .ok (.invokevirtual 105, 3) := by decide +kernel
theorem dX9_begin_28 : decode cX9_begin 28 = .ok (.return_, 1) := by decide +kernel
def f_M_begin (N nx : Nat) (D : Dt) (P : Ft) (a0 : Nat) : Option Dt :=
  if kd nx a0 = 9 then
  pas (upd2 D a0 10 0) fun D1 =>
  nn (P a0 2) fun q2 =>
  if ab nx q2 3 1 = true then
  pas (upd2 D1 q2 (1 : Int32).toNatClampNeg 0) fun D3 =>
  nn (P a0 3) fun q4 =>
  if ab nx q4 3 1 = true then
  pas (upd2 D3 q4 (1 : Int32).toNatClampNeg 0) fun D5 =>
  (f_M_tellHeart N nx D5 P a0 12 5 14).bind fun z6 =>
  some z6
  else none
  else none
  else none
theorem m_M_begin : MV yX9_begin cX9_begin 1 none 0 := ⟨mT 872 (by decide +kernel) rfl, mT 871 (by decide +kernel) rfl, mT 18 (by decide +kernel) rfl, mT 68 (by decide +kernel) rfl, by decide +kernel, by decide +kernel, by decide +kernel⟩
set_option maxHeartbeats 4000000 in
set_option maxRecDepth 100000 in
theorem c_M_begin (l : Launch) (cx : Cx) (nx N : Nat) (D : Dt) (P : Ft) (a0 : Nat) (z : Dt) (h : f_M_begin N nx D P a0 = some z) : Ct l cx yX9_begin cX9_begin 1 none 1 [.ref (cx.2.2 + a0)] D P nx none z P := by
  refine x_met0 (by decide) (Nat.le_of_ble_eq_true rfl) ?_
  intro p e s m args below meth c X
  have X : XC p s m args meth c cx cX9_begin 1 none "HeartPinsModel" "begin" := X
  refine XW.sub (lv' := [(0, .ref (cx.2.2 + a0))]) [0] rfl ?_
  unfold f_M_begin at h
  obtain ⟨hk0, h⟩ := grd h
  refine x_aload_n (pc := 0) X dX9_begin_0 (i := 0) rfl 0 rfl ?_
  refine x_iconst (v := 0) (pc := 1) X dX9_begin_1 (by decide) ?_
  obtain ⟨D1, w1, h⟩ := pass h
  refine x_putz (ci := 9) (k := 10) (n := 26) (C := RX9) (T := TX9) (D' := D1) (pc := 2) X dX9_begin_2 hk0 rfl (by decide) w_899 rfl (by decide +kernel) rfl (by decide) w1 ?_
  refine x_aload_n (pc := 5) X dX9_begin_5 (i := 0) rfl 0 rfl ?_
  obtain ⟨q2, e2, h⟩ := nns h
  refine x_getr (ci := 9) (k := 2) (n := 26) (C := RX9) (T := TX9) (pc := 6) X dX9_begin_6 hk0 rfl (by decide) w_891 rfl e2 ?_
  refine x_iconst (v := 1) (pc := 9) X dX9_begin_9 (by decide) ?_
  refine x_iconst (v := 0) (pc := 10) X dX9_begin_10 (by decide) ?_
  obtain ⟨g3, h⟩ := grd h
  obtain ⟨D3, w3, h⟩ := pass h
  refine x_iast (D' := D3) (pc := 11) X dX9_begin_11 g3 w3 ?_
  refine x_aload_n (pc := 12) X dX9_begin_12 (i := 0) rfl 0 rfl ?_
  obtain ⟨q4, e4, h⟩ := nns h
  refine x_getr (ci := 9) (k := 3) (n := 26) (C := RX9) (T := TX9) (pc := 13) X dX9_begin_13 hk0 rfl (by decide) w_892 rfl e4 ?_
  refine x_iconst (v := 1) (pc := 16) X dX9_begin_16 (by decide) ?_
  refine x_iconst (v := 0) (pc := 17) X dX9_begin_17 (by decide) ?_
  obtain ⟨g5, h⟩ := grd h
  obtain ⟨D5, w5, h⟩ := pass h
  refine x_iast (D' := D5) (pc := 18) X dX9_begin_18 g5 w5 ?_
  refine x_aload_n (pc := 19) X dX9_begin_19 (i := 0) rfl 0 rfl ?_
  refine x_bipush (v := 12) (pc := 20) X dX9_begin_20 (by decide) ?_
  refine x_iconst (v := 5) (pc := 22) X dX9_begin_22 (by decide) ?_
  refine x_bipush (v := 14) (pc := 23) X dX9_begin_23 (by decide) ?_
  obtain ⟨z6, e6, h⟩ := bnds h
  refine x_callV (pc := 25) (As := [.int 12, .int 5, .int 14]) (st := []) (st' := []) X (c_M_tellHeart l cx nx N D5 P _ _ _ _ z6 e6) dX9_begin_25 w_873 m_M_tellHeart rfl hk0 (ci := 9) rfl rfl ⟨by decide, by decide⟩ ⟨Nat.zero_le _, Nat.zero_le _⟩ rfl (Nat.le_of_ble_eq_true rfl) rfl ?_
  obtain rfl := Option.some.inj h
  exact x_vret (pc := 28) X dX9_begin_28
theorem dX9_read_0 : decode cX9_read 0 = .ok (.aload_n 0, 1) := by decide +kernel
theorem dX9_read_1 : decode cX9_read 1 = .ok (.iconst 0, 1) := by decide +kernel
theorem dX9_read_2 : decode cX9_read 2 = .ok (.putfield 82, 3) := by decide +kernel
theorem dX9_read_5 : decode cX9_read 5 = .ok (.aload_n 0, 1) := by decide +kernel
theorem dX9_read_6 : decode cX9_read 6 = .ok (.invokevirtual 118, 3) := by decide +kernel
theorem dX9_read_9 : decode cX9_read 9 = .ok (.aload_n 0, 1) := by decide +kernel
theorem dX9_read_10 : decode cX9_read 10 = .ok (.getfield 82, 3) := by decide +kernel
theorem dX9_read_13 : decode cX9_read 13 = .ok (.aload_n 0, 1) := by decide +kernel
theorem dX9_read_14 : decode cX9_read 14 = .ok (.getfield 78, 3) := by decide +kernel
theorem dX9_read_17 : decode cX9_read 17 = .ok (.if_icmp .ge 24, 3) := by decide +kernel
theorem dX9_read_20 : decode cX9_read 20 = .ok (.aload_n 0, 1) := by decide +kernel
theorem dX9_read_21 : decode cX9_read 21 = .ok (.getfield 82, 3) := by decide +kernel
theorem dX9_read_24 : decode cX9_read 24 = .ok (.istore_n 1, 1) := by decide +kernel
theorem dX9_read_25 : decode cX9_read 25 = .ok (.aload_n 0, 1) := by decide +kernel
theorem dX9_read_26 : decode cX9_read 26 = .ok (.invokevirtual 121, 3) := by decide +kernel
theorem dX9_read_29 : decode cX9_read 29 = .ok (.aload_n 0, 1) := by decide +kernel
theorem dX9_read_30 : decode cX9_read 30 = .ok (.getfield 89, 3) := by decide +kernel
theorem dX9_read_33 : decode cX9_read 33 = .ok (.ifCond .eq 5, 3) := by decide +kernel
theorem dX9_read_36 : decode cX9_read 36 = .ok (.iload_n 1, 1) := by decide +kernel
theorem dX9_read_37 : decode cX9_read 37 = .ok (.ireturn, 1) := by decide +kernel
theorem dX9_read_38 : decode cX9_read 38 = .ok (.goto (-29), 3) := by decide +kernel
theorem dX9_read_41 : decode cX9_read 41 = .ok (.bipush (-4), 2) := by decide +kernel
theorem dX9_read_43 : decode cX9_read 43 = .ok (.ireturn, 1) := by decide +kernel
def f_M_read_9 (N nx : Nat) (P : Ft) (a0 : Nat) (rec9 : Dt → Option (Int32 × Dt)) (D : Dt) : Option (Int32 × Dt) :=
  if D a0 1 ≤ D a0 9 then
    some ((-4), D)
  else
    (f_M_readItem N nx D P a0).bind fun z3 =>
    if z3 a0 10 = 0 then
      rec9 z3
    else
      some (D a0 9, z3)
def f_M_read (N nx : Nat) (D : Dt) (P : Ft) (a0 : Nat) : Option (Int32 × Dt) :=
  if kd nx a0 = 9 then
  pas (upd2 D a0 9 0) fun D1 =>
  (f_M_begin N nx D1 P a0).bind fun z2 =>
  wk1 N (f_M_read_9 N nx P a0) z2
  else none
theorem m_M_read : MV yX9_read cX9_read 2 (some .int) 0 := ⟨mT 986 (by decide +kernel) rfl, mT 985 (by decide +kernel) rfl, mT 23 (by decide +kernel) rfl, mT 68 (by decide +kernel) rfl, by decide +kernel, by decide +kernel, by decide +kernel⟩
set_option maxHeartbeats 4000000 in
set_option maxRecDepth 100000 in
theorem c_M_read (l : Launch) (cx : Cx) (nx N : Nat) (D : Dt) (P : Ft) (a0 : Nat) (z : Int32 × Dt) (h : f_M_read N nx D P a0 = some z) : Ct l cx yX9_read cX9_read 2 (some .int) 5 [.ref (cx.2.2 + a0)] D P nx (some (.int z.1)) z.2 P := by
  refine x_met0 (by decide) (Nat.le_of_ble_eq_true rfl) ?_
  intro p e s m args below meth c X
  have X : XC p s m args meth c cx cX9_read 2 (some .int) "HeartPinsModel" "read" := X
  refine XW.sub (lv' := [(0, .ref (cx.2.2 + a0))]) [0] rfl ?_
  unfold f_M_read at h
  obtain ⟨hk0, h⟩ := grd h
  have hL9 : ∀ (n : Nat) (D : Dt), wk1 n (f_M_read_9 N nx P a0) D = some z → XW p l e (rmk 5) s m args below meth c (MQ below (Qx cx (some (.int z.1)) z.2 P nx) args s 0 0 (AA cx)) cx 2 D P nx 0 0 9 [(0, .ref (cx.2.2 + a0))] [] := by
    intro n
    induction n with
    | zero => intro D h; exact (nonz h).elim
    | succ n ih9 =>
      intro D h
      have h : f_M_read_9 N nx P a0 (wk1 n (f_M_read_9 N nx P a0)) D = some z := h
      generalize wk1 n (f_M_read_9 N nx P a0) = rec9 at ih9 h
      unfold f_M_read_9 at h
      refine x_aload_n (pc := 9) X dX9_read_9 (i := 0) rfl 0 rfl ?_
      refine x_geti (ci := 9) (k := 9) (n := 26) (C := RX9) (T := TX9) (pc := 10) X dX9_read_10 hk0 rfl (by decide) w_898 rfl ?_
      refine x_aload_n (pc := 13) X dX9_read_13 (i := 0) rfl 0 rfl ?_
      refine x_geti (ci := 9) (k := 1) (n := 26) (C := RX9) (T := TX9) (pc := 14) X dX9_read_14 hk0 rfl (by decide) w_890 rfl ?_
      refine x_icmp_ge (tgt := 41) (pc := 17) X dX9_read_17 (by decide) (fun c5 => ?_) (fun c5 => ?_)
      · have h := ite_t c5 h
        refine x_bipush (v := (-4)) (pc := 41) X dX9_read_41 (by decide) ?_
        obtain rfl := Option.some.inj h
        exact x_iret (pc := 43) X dX9_read_43
      · have h := ite_f c5 h
        refine x_aload_n (pc := 20) X dX9_read_20 (i := 0) rfl 0 rfl ?_
        refine x_geti (ci := 9) (k := 9) (n := 26) (C := RX9) (T := TX9) (pc := 21) X dX9_read_21 hk0 rfl (by decide) w_898 rfl ?_
        refine x_istore_n (lv' := [(1, .int (D a0 9)), (0, .ref (cx.2.2 + a0))]) (pc := 24) X dX9_read_24 (i := 1) rfl (by decide) rfl ?_
        refine x_aload_n (pc := 25) X dX9_read_25 (i := 0) rfl 1 rfl ?_
        obtain ⟨z3, e3, h⟩ := bnds h
        refine x_callV (pc := 26) (As := []) (st := []) (st' := []) X (c_M_readItem l cx nx N D P _ z3 e3) dX9_read_26 w_987 m_M_readItem rfl hk0 (ci := 9) rfl rfl ⟨by decide, by decide⟩ ⟨Nat.zero_le _, Nat.zero_le _⟩ rfl (Nat.le_of_ble_eq_true rfl) rfl ?_
        refine x_aload_n (pc := 29) X dX9_read_29 (i := 0) rfl 1 rfl ?_
        refine x_geti (ci := 9) (k := 10) (n := 26) (C := RX9) (T := TX9) (pc := 30) X dX9_read_30 hk0 rfl (by decide) w_899 rfl ?_
        refine x_if_eq (tgt := 38) (pc := 33) X dX9_read_33 (by decide) (fun c4 => ?_) (fun c4 => ?_)
        · have h := ite_t c4 h
          refine x_goto (tgt := 9) (pc := 38) X dX9_read_38 (by decide) ?_
          exact XW.sub [1] rfl (ih9 _ h)
        · have h := ite_f c4 h
          refine x_iload_n (pc := 36) X dX9_read_36 (i := 1) rfl 0 rfl ?_
          obtain rfl := Option.some.inj h
          exact x_iret (pc := 37) X dX9_read_37
  refine x_aload_n (pc := 0) X dX9_read_0 (i := 0) rfl 0 rfl ?_
  refine x_iconst (v := 0) (pc := 1) X dX9_read_1 (by decide) ?_
  obtain ⟨D1, w1, h⟩ := pass h
  refine x_puti (ci := 9) (k := 9) (n := 26) (C := RX9) (T := TX9) (D' := D1) (pc := 2) X dX9_read_2 hk0 rfl (by decide) w_898 rfl (by decide +kernel) rfl w1 ?_
  refine x_aload_n (pc := 5) X dX9_read_5 (i := 0) rfl 0 rfl ?_
  obtain ⟨z2, e2, h⟩ := bnds h
  refine x_callV (pc := 6) (As := []) (st := []) (st' := []) X (c_M_begin l cx nx N D1 P _ z2 e2) dX9_read_6 w_869 m_M_begin rfl hk0 (ci := 9) rfl rfl ⟨by decide, by decide⟩ ⟨Nat.zero_le _, Nat.zero_le _⟩ rfl (Nat.le_of_ble_eq_true rfl) rfl ?_
  exact XW.sub [0] rfl (hL9 _ _ h)
theorem dX9_fault_0 : decode cX9_fault 0 = .ok (.aload_n 0, 1) := by decide +kernel
theorem dX9_fault_1 : decode cX9_fault 1 = .ok (.invokevirtual 124, 3) := by decide +kernel
theorem dX9_fault_4 : decode cX9_fault 4 = .ok (.ireturn, 1) := by decide +kernel
def f_M_fault (N nx : Nat) (D : Dt) (P : Ft) (a0 : Nat) : Option (Int32 × Dt) :=
  if kd nx a0 = 9 then
  (f_M_read N nx D P a0).bind fun z1 =>
  some (z1.1, z1.2)
  else none
theorem m_M_fault : MV yX9_fault cX9_fault 1 (some .int) 0 := ⟨mT 982 (by decide +kernel) rfl, mT 980 (by decide +kernel) rfl, mT 981 (by decide +kernel) rfl, mT 68 (by decide +kernel) rfl, by decide +kernel, by decide +kernel, by decide +kernel⟩
set_option maxHeartbeats 4000000 in
set_option maxRecDepth 100000 in
theorem c_M_fault (l : Launch) (cx : Cx) (nx N : Nat) (D : Dt) (P : Ft) (a0 : Nat) (z : Int32 × Dt) (h : f_M_fault N nx D P a0 = some z) : Ct l cx yX9_fault cX9_fault 1 (some .int) 6 [.ref (cx.2.2 + a0)] D P nx (some (.int z.1)) z.2 P := by
  refine x_met0 (by decide) (Nat.le_of_ble_eq_true rfl) ?_
  intro p e s m args below meth c X
  have X : XC p s m args meth c cx cX9_fault 1 (some .int) "HeartPinsModel" "fault" := X
  refine XW.sub (lv' := [(0, .ref (cx.2.2 + a0))]) [0] rfl ?_
  unfold f_M_fault at h
  obtain ⟨hk0, h⟩ := grd h
  refine x_aload_n (pc := 0) X dX9_fault_0 (i := 0) rfl 0 rfl ?_
  obtain ⟨z1, e1, h⟩ := bnds h
  refine x_callV (pc := 1) (As := []) (st := []) (st' := [.int z1.1]) X (c_M_read l cx nx N D P _ z1 e1) dX9_fault_1 w_983 m_M_read rfl hk0 (ci := 9) rfl rfl ⟨by decide, by decide⟩ ⟨Nat.zero_le _, Nat.zero_le _⟩ rfl (Nat.le_of_ble_eq_true rfl) rfl ?_
  obtain rfl := Option.some.inj h
  exact x_iret (pc := 4) X dX9_fault_4
theorem dX9_tellPerson_0 : decode cX9_tellPerson 0 = .ok (.aload_n 0, 1) := by decide +kernel
theorem dX9_tellPerson_1 : decode cX9_tellPerson 1 = .ok (.getfield 23, 3) := by decide +kernel
theorem dX9_tellPerson_4 : decode cX9_tellPerson 4 = .ok (.iconst 5, 1) := by decide +kernel
theorem dX9_tellPerson_5 : decode cX9_tellPerson 5 = .ok (.aload_n 0, 1) := by decide +kernel
theorem dX9_tellPerson_6 : decode cX9_tellPerson 6 = .ok (.getfield 13, 3) := by decide +kernel
theorem dX9_tellPerson_9 : decode cX9_tellPerson 9 = .ok (.iconst 1, 1) := by decide +kernel
theorem dX9_tellPerson_10 : decode cX9_tellPerson 10 = .ok (.iaload, 1) := by decide +kernel
theorem dX9_tellPerson_11 : decode cX9_tellPerson 11 = .ok (.iadd, 1) := by decide +kernel
theorem dX9_tellPerson_12 : decode cX9_tellPerson 12 = .ok (.iload_n 1, 1) := by decide +kernel
theorem dX9_tellPerson_13 : decode cX9_tellPerson 13 = .ok (.iastore, 1) := by decide +kernel
theorem dX9_tellPerson_14 : decode cX9_tellPerson 14 = .ok (.aload_n 0, 1) := by decide +kernel
theorem dX9_tellPerson_15 : decode cX9_tellPerson 15 = .ok (.getfield 13, 3) := by decide +kernel
theorem dX9_tellPerson_18 : decode cX9_tellPerson 18 = .ok (.iconst 1, 1) := by decide +kernel
theorem dX9_tellPerson_19 : decode cX9_tellPerson 19 = .ok (.dup2, 1) := by decide +kernel
theorem dX9_tellPerson_20 : decode cX9_tellPerson 20 = .ok (.iaload, 1) := by decide +kernel
theorem dX9_tellPerson_21 : decode cX9_tellPerson 21 = .ok (.iconst 1, 1) := by decide +kernel
theorem dX9_tellPerson_22 : decode cX9_tellPerson 22 = .ok (.iadd, 1) := by decide +kernel
theorem dX9_tellPerson_23 : decode cX9_tellPerson 23 = .ok (.iastore, 1) := by decide +kernel
theorem dX9_tellPerson_24 : decode cX9_tellPerson 24 = .ok (.return_, 1) := by decide +kernel
def f_M_tellPerson (N nx : Nat) (D : Dt) (P : Ft) (a0 : Nat) (i1 : Int32) : Option Dt :=
  if kd nx a0 = 9 then
  nn (P a0 5) fun q1 =>
  nn (P a0 2) fun q2 =>
  if ab nx q2 3 1 = true then
  if ab nx q1 3 (5 + (D q2 (1 : Int32).toNatClampNeg)) = true then
  pas (upd2 D q1 (5 + (D q2 (1 : Int32).toNatClampNeg)).toNatClampNeg i1) fun D4 =>
  if ab nx q2 3 1 = true then
  if ab nx q2 3 1 = true then
  pas (upd2 D4 q2 (1 : Int32).toNatClampNeg ((D4 q2 (1 : Int32).toNatClampNeg) + 1)) fun D6 =>
  some D6
  else none
  else none
  else none
  else none
  else none
theorem m_M_tellPerson : MV yX9_tellPerson cX9_tellPerson 2 none 1 := ⟨mT 880 (by decide +kernel) rfl, mT 879 (by decide +kernel) rfl, mT 20 (by decide +kernel) rfl, mT 68 (by decide +kernel) rfl, by decide +kernel, by decide +kernel, by decide +kernel⟩
set_option maxHeartbeats 4000000 in
set_option maxRecDepth 100000 in
theorem c_M_tellPerson (l : Launch) (cx : Cx) (nx N : Nat) (D : Dt) (P : Ft) (a0 : Nat) (i1 : Int32) (z : Dt) (h : f_M_tellPerson N nx D P a0 i1 = some z) : Ct l cx yX9_tellPerson cX9_tellPerson 2 none 0 [.ref (cx.2.2 + a0), .int i1] D P nx none z P := by
  refine x_met0 (by decide) (Nat.le_of_ble_eq_true rfl) ?_
  intro p e s m args below meth c X
  have X : XC p s m args meth c cx cX9_tellPerson 2 none "HeartPinsModel" "tellPerson" := X
  refine XW.sub (lv' := [(0, .ref (cx.2.2 + a0)), (1, .int i1)]) [0, 1] rfl ?_
  unfold f_M_tellPerson at h
  obtain ⟨hk0, h⟩ := grd h
  refine x_aload_n (pc := 0) X dX9_tellPerson_0 (i := 0) rfl 0 rfl ?_
  obtain ⟨q1, e1, h⟩ := nns h
  refine x_getr (ci := 9) (k := 5) (n := 26) (C := RX9) (T := TX9) (pc := 1) X dX9_tellPerson_1 hk0 rfl (by decide) w_894 rfl e1 ?_
  refine x_iconst (v := 5) (pc := 4) X dX9_tellPerson_4 (by decide) ?_
  refine x_aload_n (pc := 5) X dX9_tellPerson_5 (i := 0) rfl 0 rfl ?_
  obtain ⟨q2, e2, h⟩ := nns h
  refine x_getr (ci := 9) (k := 2) (n := 26) (C := RX9) (T := TX9) (pc := 6) X dX9_tellPerson_6 hk0 rfl (by decide) w_891 rfl e2 ?_
  refine x_iconst (v := 1) (pc := 9) X dX9_tellPerson_9 (by decide) ?_
  obtain ⟨g3, h⟩ := grd h
  refine x_iald (pc := 10) X dX9_tellPerson_10 g3 ?_
  refine x_iadd (pc := 11) X dX9_tellPerson_11 ?_
  refine x_iload_n (pc := 12) X dX9_tellPerson_12 (i := 1) rfl 1 rfl ?_
  obtain ⟨g4, h⟩ := grd h
  obtain ⟨D4, w4, h⟩ := pass h
  refine x_iast (D' := D4) (pc := 13) X dX9_tellPerson_13 g4 w4 ?_
  refine x_aload_n (pc := 14) X dX9_tellPerson_14 (i := 0) rfl 0 rfl ?_
  refine x_getr (ci := 9) (k := 2) (n := 26) (C := RX9) (T := TX9) (pc := 15) X dX9_tellPerson_15 hk0 rfl (by decide) w_891 rfl e2 ?_
  refine x_iconst (v := 1) (pc := 18) X dX9_tellPerson_18 (by decide) ?_
  refine x_dup2 (pc := 19) X dX9_tellPerson_19 rfl rfl ?_
  obtain ⟨g5, h⟩ := grd h
  refine x_iald (pc := 20) X dX9_tellPerson_20 g5 ?_
  refine x_iconst (v := 1) (pc := 21) X dX9_tellPerson_21 (by decide) ?_
  refine x_iadd (pc := 22) X dX9_tellPerson_22 ?_
  obtain ⟨g6, h⟩ := grd h
  obtain ⟨D6, w6, h⟩ := pass h
  refine x_iast (D' := D6) (pc := 23) X dX9_tellPerson_23 g6 w6 ?_
  obtain rfl := Option.some.inj h
  exact x_vret (pc := 24) X dX9_tellPerson_24
theorem dX9_tellPin_0 : decode cX9_tellPin 0 = .ok (.aload_n 0, 1) := by decide +kernel
theorem dX9_tellPin_1 : decode cX9_tellPin 1 = .ok (.getfield 26, 3) := by decide +kernel
theorem dX9_tellPin_4 : decode cX9_tellPin 4 = .ok (.bipush 8, 2) := by decide +kernel
theorem dX9_tellPin_6 : decode cX9_tellPin 6 = .ok (.aload_n 0, 1) := by decide +kernel
theorem dX9_tellPin_7 : decode cX9_tellPin 7 = .ok (.getfield 17, 3) := by decide +kernel
theorem dX9_tellPin_10 : decode cX9_tellPin 10 = .ok (.iconst 1, 1) := by decide +kernel
theorem dX9_tellPin_11 : decode cX9_tellPin 11 = .ok (.iaload, 1) := by decide +kernel
theorem dX9_tellPin_12 : decode cX9_tellPin 12 = .ok (.iadd, 1) := by decide +kernel
theorem dX9_tellPin_13 : decode cX9_tellPin 13 = .ok (.iload_n 1, 1) := by decide +kernel
theorem dX9_tellPin_14 : decode cX9_tellPin 14 = .ok (.iastore, 1) := by decide +kernel
theorem dX9_tellPin_15 : decode cX9_tellPin 15 = .ok (.aload_n 0, 1) := by decide +kernel
theorem dX9_tellPin_16 : decode cX9_tellPin 16 = .ok (.getfield 29, 3) := by decide +kernel
theorem dX9_tellPin_19 : decode cX9_tellPin 19 = .ok (.bipush 8, 2) := by decide +kernel
theorem dX9_tellPin_21 : decode cX9_tellPin 21 = .ok (.aload_n 0, 1) := by decide +kernel
theorem dX9_tellPin_22 : decode cX9_tellPin 22 = .ok (.getfield 17, 3) := by decide +kernel
theorem dX9_tellPin_25 : decode cX9_tellPin 25 = .ok (.iconst 1, 1) := by decide +kernel
theorem dX9_tellPin_26 : decode cX9_tellPin 26 = .ok (.iaload, 1) := by decide +kernel
theorem dX9_tellPin_27 : decode cX9_tellPin 27 = .ok (.iadd, 1) := by decide +kernel
theorem dX9_tellPin_28 : decode cX9_tellPin 28 = .ok (.iload_n 2, 1) := by decide +kernel
theorem dX9_tellPin_29 : decode cX9_tellPin 29 = .ok (.iastore, 1) := by decide +kernel
theorem dX9_tellPin_30 : decode cX9_tellPin 30 = .ok (.aload_n 0, 1) := by decide +kernel
theorem dX9_tellPin_31 : decode cX9_tellPin 31 = .ok (.getfield 32, 3) := by decide +kernel
theorem dX9_tellPin_34 : decode cX9_tellPin 34 = .ok (.bipush 8, 2) := by decide +kernel
theorem dX9_tellPin_36 : decode cX9_tellPin 36 = .ok (.aload_n 0, 1) := by decide +kernel
theorem dX9_tellPin_37 : decode cX9_tellPin 37 = .ok (.getfield 17, 3) := by decide +kernel
theorem dX9_tellPin_40 : decode cX9_tellPin 40 = .ok (.iconst 1, 1) := by decide +kernel
theorem dX9_tellPin_41 : decode cX9_tellPin 41 = .ok (.iaload, 1) := by decide +kernel
theorem dX9_tellPin_42 : decode cX9_tellPin 42 = .ok (.iadd, 1) := by decide +kernel
theorem dX9_tellPin_43 : decode cX9_tellPin 43 = .ok (.iload_n 3, 1) := by decide +kernel
theorem dX9_tellPin_44 : decode cX9_tellPin 44 = .ok (.iastore, 1) := by decide +kernel
theorem dX9_tellPin_45 : decode cX9_tellPin 45 = .ok (.aload_n 0, 1) := by decide +kernel
theorem dX9_tellPin_46 : decode cX9_tellPin 46 = .ok (.getfield 17, 3) := by decide +kernel
theorem dX9_tellPin_49 : decode cX9_tellPin 49 = .ok (.iconst 1, 1) := by decide +kernel
theorem dX9_tellPin_50 : decode cX9_tellPin 50 = .ok (.dup2, 1) := by decide +kernel
theorem dX9_tellPin_51 : decode cX9_tellPin 51 = .ok (.iaload, 1) := by decide +kernel
theorem dX9_tellPin_52 : decode cX9_tellPin 52 = .ok (.iconst 1, 1) := by decide +kernel
theorem dX9_tellPin_53 : decode cX9_tellPin 53 = .ok (.iadd, 1) := by decide +kernel
theorem dX9_tellPin_54 : decode cX9_tellPin 54 = .ok (.iastore, 1) := by decide +kernel
theorem dX9_tellPin_55 : decode cX9_tellPin 55 = .ok (.return_, 1) := by decide +kernel
def f_M_tellPin (N nx : Nat) (D : Dt) (P : Ft) (a0 : Nat) (i1 : Int32) (i2 : Int32) (i3 : Int32) : Option Dt :=
  if kd nx a0 = 9 then
  nn (P a0 6) fun q1 =>
  nn (P a0 3) fun q2 =>
  if ab nx q2 3 1 = true then
  if ab nx q1 3 (8 + (D q2 (1 : Int32).toNatClampNeg)) = true then
  pas (upd2 D q1 (8 + (D q2 (1 : Int32).toNatClampNeg)).toNatClampNeg i1) fun D4 =>
  nn (P a0 7) fun q5 =>
  if ab nx q2 3 1 = true then
  if ab nx q5 3 (8 + (D4 q2 (1 : Int32).toNatClampNeg)) = true then
  pas (upd2 D4 q5 (8 + (D4 q2 (1 : Int32).toNatClampNeg)).toNatClampNeg i2) fun D7 =>
  nn (P a0 8) fun q8 =>
  if ab nx q2 3 1 = true then
  if ab nx q8 3 (8 + (D7 q2 (1 : Int32).toNatClampNeg)) = true then
  pas (upd2 D7 q8 (8 + (D7 q2 (1 : Int32).toNatClampNeg)).toNatClampNeg i3) fun D10 =>
  if ab nx q2 3 1 = true then
  if ab nx q2 3 1 = true then
  pas (upd2 D10 q2 (1 : Int32).toNatClampNeg ((D10 q2 (1 : Int32).toNatClampNeg) + 1)) fun D12 =>
  some D12
  else none
  else none
  else none
  else none
  else none
  else none
  else none
  else none
  else none
theorem m_M_tellPin : MV yX9_tellPin cX9_tellPin 4 none 3 := ⟨mT 884 (by decide +kernel) rfl, mT 883 (by decide +kernel) rfl, mT 21 (by decide +kernel) rfl, mT 68 (by decide +kernel) rfl, by decide +kernel, by decide +kernel, by decide +kernel⟩
set_option maxHeartbeats 4000000 in
set_option maxRecDepth 100000 in
theorem c_M_tellPin (l : Launch) (cx : Cx) (nx N : Nat) (D : Dt) (P : Ft) (a0 : Nat) (i1 : Int32) (i2 : Int32) (i3 : Int32) (z : Dt) (h : f_M_tellPin N nx D P a0 i1 i2 i3 = some z) : Ct l cx yX9_tellPin cX9_tellPin 4 none 0 [.ref (cx.2.2 + a0), .int i1, .int i2, .int i3] D P nx none z P := by
  refine x_met0 (by decide) (Nat.le_of_ble_eq_true rfl) ?_
  intro p e s m args below meth c X
  have X : XC p s m args meth c cx cX9_tellPin 4 none "HeartPinsModel" "tellPin" := X
  refine XW.sub (lv' := [(0, .ref (cx.2.2 + a0)), (1, .int i1), (2, .int i2), (3, .int i3)]) [0, 1, 2, 3] rfl ?_
  unfold f_M_tellPin at h
  obtain ⟨hk0, h⟩ := grd h
  refine x_aload_n (pc := 0) X dX9_tellPin_0 (i := 0) rfl 0 rfl ?_
  obtain ⟨q1, e1, h⟩ := nns h
  refine x_getr (ci := 9) (k := 6) (n := 26) (C := RX9) (T := TX9) (pc := 1) X dX9_tellPin_1 hk0 rfl (by decide) w_895 rfl e1 ?_
  refine x_bipush (v := 8) (pc := 4) X dX9_tellPin_4 (by decide) ?_
  refine x_aload_n (pc := 6) X dX9_tellPin_6 (i := 0) rfl 0 rfl ?_
  obtain ⟨q2, e2, h⟩ := nns h
  refine x_getr (ci := 9) (k := 3) (n := 26) (C := RX9) (T := TX9) (pc := 7) X dX9_tellPin_7 hk0 rfl (by decide) w_892 rfl e2 ?_
  refine x_iconst (v := 1) (pc := 10) X dX9_tellPin_10 (by decide) ?_
  obtain ⟨g3, h⟩ := grd h
  refine x_iald (pc := 11) X dX9_tellPin_11 g3 ?_
  refine x_iadd (pc := 12) X dX9_tellPin_12 ?_
  refine x_iload_n (pc := 13) X dX9_tellPin_13 (i := 1) rfl 1 rfl ?_
  obtain ⟨g4, h⟩ := grd h
  obtain ⟨D4, w4, h⟩ := pass h
  refine x_iast (D' := D4) (pc := 14) X dX9_tellPin_14 g4 w4 ?_
  refine x_aload_n (pc := 15) X dX9_tellPin_15 (i := 0) rfl 0 rfl ?_
  obtain ⟨q5, e5, h⟩ := nns h
  refine x_getr (ci := 9) (k := 7) (n := 26) (C := RX9) (T := TX9) (pc := 16) X dX9_tellPin_16 hk0 rfl (by decide) w_896 rfl e5 ?_
  refine x_bipush (v := 8) (pc := 19) X dX9_tellPin_19 (by decide) ?_
  refine x_aload_n (pc := 21) X dX9_tellPin_21 (i := 0) rfl 0 rfl ?_
  refine x_getr (ci := 9) (k := 3) (n := 26) (C := RX9) (T := TX9) (pc := 22) X dX9_tellPin_22 hk0 rfl (by decide) w_892 rfl e2 ?_
  refine x_iconst (v := 1) (pc := 25) X dX9_tellPin_25 (by decide) ?_
  obtain ⟨g6, h⟩ := grd h
  refine x_iald (pc := 26) X dX9_tellPin_26 g6 ?_
  refine x_iadd (pc := 27) X dX9_tellPin_27 ?_
  refine x_iload_n (pc := 28) X dX9_tellPin_28 (i := 2) rfl 2 rfl ?_
  obtain ⟨g7, h⟩ := grd h
  obtain ⟨D7, w7, h⟩ := pass h
  refine x_iast (D' := D7) (pc := 29) X dX9_tellPin_29 g7 w7 ?_
  refine x_aload_n (pc := 30) X dX9_tellPin_30 (i := 0) rfl 0 rfl ?_
  obtain ⟨q8, e8, h⟩ := nns h
  refine x_getr (ci := 9) (k := 8) (n := 26) (C := RX9) (T := TX9) (pc := 31) X dX9_tellPin_31 hk0 rfl (by decide) w_897 rfl e8 ?_
  refine x_bipush (v := 8) (pc := 34) X dX9_tellPin_34 (by decide) ?_
  refine x_aload_n (pc := 36) X dX9_tellPin_36 (i := 0) rfl 0 rfl ?_
  refine x_getr (ci := 9) (k := 3) (n := 26) (C := RX9) (T := TX9) (pc := 37) X dX9_tellPin_37 hk0 rfl (by decide) w_892 rfl e2 ?_
  refine x_iconst (v := 1) (pc := 40) X dX9_tellPin_40 (by decide) ?_
  obtain ⟨g9, h⟩ := grd h
  refine x_iald (pc := 41) X dX9_tellPin_41 g9 ?_
  refine x_iadd (pc := 42) X dX9_tellPin_42 ?_
  refine x_iload_n (pc := 43) X dX9_tellPin_43 (i := 3) rfl 3 rfl ?_
  obtain ⟨g10, h⟩ := grd h
  obtain ⟨D10, w10, h⟩ := pass h
  refine x_iast (D' := D10) (pc := 44) X dX9_tellPin_44 g10 w10 ?_
  refine x_aload_n (pc := 45) X dX9_tellPin_45 (i := 0) rfl 0 rfl ?_
  refine x_getr (ci := 9) (k := 3) (n := 26) (C := RX9) (T := TX9) (pc := 46) X dX9_tellPin_46 hk0 rfl (by decide) w_892 rfl e2 ?_
  refine x_iconst (v := 1) (pc := 49) X dX9_tellPin_49 (by decide) ?_
  refine x_dup2 (pc := 50) X dX9_tellPin_50 rfl rfl ?_
  obtain ⟨g11, h⟩ := grd h
  refine x_iald (pc := 51) X dX9_tellPin_51 g11 ?_
  refine x_iconst (v := 1) (pc := 52) X dX9_tellPin_52 (by decide) ?_
  refine x_iadd (pc := 53) X dX9_tellPin_53 ?_
  obtain ⟨g12, h⟩ := grd h
  obtain ⟨D12, w12, h⟩ := pass h
  refine x_iast (D' := D12) (pc := 54) X dX9_tellPin_54 g12 w12 ?_
  obtain rfl := Option.some.inj h
  exact x_vret (pc := 55) X dX9_tellPin_55
theorem dX9_first_0 : decode cX9_first 0 = .ok (.aload_n 0, 1) := by decide +kernel
theorem dX9_first_1 : decode cX9_first 1 = .ok (.invokevirtual 118, 3) := by decide +kernel
theorem dX9_first_4 : decode cX9_first 4 = .ok (.aload_n 0, 1) := by decide +kernel
theorem dX9_first_5 : decode cX9_first 5 = .ok (.bipush 12, 2) := by decide +kernel
theorem dX9_first_7 : decode cX9_first 7 = .ok (.invokevirtual 127, 3) := by decide +kernel
theorem dX9_first_10 : decode cX9_first 10 = .ok (.aload_n 0, 1) := by decide +kernel
theorem dX9_first_11 : decode cX9_first 11 = .ok (.bipush 20, 2) := by decide +kernel
theorem dX9_first_13 : decode cX9_first 13 = .ok (.invokevirtual 127, 3) := by decide +kernel
theorem dX9_first_16 : decode cX9_first 16 = .ok (.aload_n 0, 1) := by decide +kernel
theorem dX9_first_17 : decode cX9_first 17 = .ok (.bipush 9, 2) := by decide +kernel
theorem dX9_first_19 : decode cX9_first 19 = .ok (.invokevirtual 127, 3) := by decide +kernel
theorem dX9_first_22 : decode cX9_first 22 = .ok (.aload_n 0, 1) := by decide +kernel
theorem dX9_first_23 : decode cX9_first 23 = .ok (.bipush 15, 2) := by decide +kernel
theorem dX9_first_25 : decode cX9_first 25 = .ok (.invokevirtual 127, 3) := by decide +kernel
theorem dX9_first_28 : decode cX9_first 28 = .ok (.aload_n 0, 1) := by decide +kernel
theorem dX9_first_29 : decode cX9_first 29 = .ok (.iconst 0, 1) := by decide +kernel
theorem dX9_first_30 : decode cX9_first 30 = .ok (.iconst 0, 1) := by decide +kernel
theorem dX9_first_31 : decode cX9_first 31 = .ok (.iconst 5, 1) := by decide +kernel
theorem dX9_first_32 : decode cX9_first 32 = .ok (.invokevirtual 130, 3) := by decide +kernel
theorem dX9_first_35 : decode cX9_first 35 = .ok (.aload_n 0, 1) := by decide +kernel
theorem dX9_first_36 : decode cX9_first 36 = .ok (.iconst 0, 1) := by decide +kernel
theorem dX9_first_37 : decode cX9_first 37 = .ok (.iconst 1, 1) := by decide +kernel
theorem dX9_first_38 : decode cX9_first 38 = .ok (.iconst 3, 1) := by decide +kernel
theorem dX9_first_39 : decode cX9_first 39 = .ok (.invokevirtual 130, 3) := by decide +kernel
theorem dX9_first_42 : decode cX9_first 42 = .ok (.aload_n 0, 1) := by decide +kernel
theorem dX9_first_43 : decode cX9_first 43 = .ok (.iconst 1, 1) := by decide +kernel
theorem dX9_first_44 : decode cX9_first 44 = .ok (.iconst 2, 1) := by decide +kernel
theorem dX9_first_45 : decode cX9_first 45 = .ok (.bipush 9, 2) := by decide +kernel
theorem dX9_first_47 : decode cX9_first 47 = .ok (.invokevirtual 130, 3) := by decide +kernel
theorem dX9_first_50 : decode cX9_first 50 = .ok (.aload_n 0, 1) := by decide +kernel
theorem dX9_first_51 : decode cX9_first 51 = .ok (.iconst 1, 1) := by decide +kernel
theorem dX9_first_52 : decode cX9_first 52 = .ok (.iconst 3, 1) := by decide +kernel
theorem dX9_first_53 : decode cX9_first 53 = .ok (.iconst 4, 1) := by decide +kernel
theorem dX9_first_54 : decode cX9_first 54 = .ok (.invokevirtual 130, 3) := by decide +kernel
theorem dX9_first_57 : decode cX9_first 57 = .ok (.aload_n 0, 1) := by decide +kernel
theorem dX9_first_58 : decode cX9_first 58 = .ok (.iconst 2, 1) := by decide +kernel
theorem dX9_first_59 : decode cX9_first 59 = .ok (.iconst 1, 1) := by decide +kernel
theorem dX9_first_60 : decode cX9_first 60 = .ok (.bipush 6, 2) := by decide +kernel
theorem dX9_first_62 : decode cX9_first 62 = .ok (.invokevirtual 130, 3) := by decide +kernel
theorem dX9_first_65 : decode cX9_first 65 = .ok (.aload_n 0, 1) := by decide +kernel
theorem dX9_first_66 : decode cX9_first 66 = .ok (.iconst 2, 1) := by decide +kernel
theorem dX9_first_67 : decode cX9_first 67 = .ok (.iconst 0, 1) := by decide +kernel
theorem dX9_first_68 : decode cX9_first 68 = .ok (.iconst 2, 1) := by decide +kernel
theorem dX9_first_69 : decode cX9_first 69 = .ok (.invokevirtual 130, 3) := by decide +kernel
theorem dX9_first_72 : decode cX9_first 72 = .ok (.aload_n 0, 1) := by decide +kernel
theorem dX9_first_73 : decode cX9_first 73 = .ok (.iconst 3, 1) := by decide +kernel
theorem dX9_first_74 : decode cX9_first 74 = .ok (.iconst 3, 1) := by decide +kernel
theorem dX9_first_75 : decode cX9_first 75 = .ok (.bipush 7, 2) := by decide +kernel
theorem dX9_first_77 : decode cX9_first 77 = .ok (.invokevirtual 130, 3) := by decide +kernel
theorem dX9_first_80 : decode cX9_first 80 = .ok (.aload_n 0, 1) := by decide +kernel
theorem dX9_first_81 : decode cX9_first 81 = .ok (.iconst 3, 1) := by decide +kernel
theorem dX9_first_82 : decode cX9_first 82 = .ok (.iconst 2, 1) := by decide +kernel
theorem dX9_first_83 : decode cX9_first 83 = .ok (.iconst 4, 1) := by decide +kernel
theorem dX9_first_84 : decode cX9_first 84 = .ok (.invokevirtual 130, 3) := by decide +kernel
theorem dX9_first_87 : decode cX9_first 87 = .ok (.aload_n 0, 1) := by decide +kernel
theorem dX9_first_88 : decode cX9_first 88 = .ok (.bipush 10, 2) := by decide +kernel
theorem dX9_first_90 : decode cX9_first 90 = .ok (.iconst 4, 1) := by decide +kernel
theorem dX9_first_91 : decode cX9_first 91 = .ok (.bipush 9, 2) := by decide +kernel
theorem dX9_first_93 : decode cX9_first 93 = .ok (.invokevirtual 105, 3) := by decide +kernel
theorem dX9_first_96 : decode cX9_first 96 = .ok (.return_, 1) := by decide +kernel
def f_M_first (N nx : Nat) (D : Dt) (P : Ft) (a0 : Nat) : Option Dt :=
  if kd nx a0 = 9 then
  (f_M_begin N nx D P a0).bind fun z1 =>
  (f_M_tellPerson N nx z1 P a0 12).bind fun z2 =>
  (f_M_tellPerson N nx z2 P a0 20).bind fun z3 =>
  (f_M_tellPerson N nx z3 P a0 9).bind fun z4 =>
  (f_M_tellPerson N nx z4 P a0 15).bind fun z5 =>
  (f_M_tellPin N nx z5 P a0 0 0 5).bind fun z6 =>
  (f_M_tellPin N nx z6 P a0 0 1 3).bind fun z7 =>
  (f_M_tellPin N nx z7 P a0 1 2 9).bind fun z8 =>
  (f_M_tellPin N nx z8 P a0 1 3 4).bind fun z9 =>
  (f_M_tellPin N nx z9 P a0 2 1 6).bind fun z10 =>
  (f_M_tellPin N nx z10 P a0 2 0 2).bind fun z11 =>
  (f_M_tellPin N nx z11 P a0 3 3 7).bind fun z12 =>
  (f_M_tellPin N nx z12 P a0 3 2 4).bind fun z13 =>
  (f_M_tellHeart N nx z13 P a0 10 4 9).bind fun z14 =>
  some z14
  else none
theorem m_M_first : MV yX9_first cX9_first 1 none 0 := ⟨mT 868 (by decide +kernel) rfl, mT 867 (by decide +kernel) rfl, mT 17 (by decide +kernel) rfl, mT 68 (by decide +kernel) rfl, by decide +kernel, by decide +kernel, by decide +kernel⟩
set_option maxHeartbeats 4000000 in
set_option maxRecDepth 100000 in
theorem c_M_first (l : Launch) (cx : Cx) (nx N : Nat) (D : Dt) (P : Ft) (a0 : Nat) (z : Dt) (h : f_M_first N nx D P a0 = some z) : Ct l cx yX9_first cX9_first 1 none 2 [.ref (cx.2.2 + a0)] D P nx none z P := by
  refine x_met0 (by decide) (Nat.le_of_ble_eq_true rfl) ?_
  intro p e s m args below meth c X
  have X : XC p s m args meth c cx cX9_first 1 none "HeartPinsModel" "first" := X
  refine XW.sub (lv' := [(0, .ref (cx.2.2 + a0))]) [0] rfl ?_
  unfold f_M_first at h
  obtain ⟨hk0, h⟩ := grd h
  refine x_aload_n (pc := 0) X dX9_first_0 (i := 0) rfl 0 rfl ?_
  obtain ⟨z1, e1, h⟩ := bnds h
  refine x_callV (pc := 1) (As := []) (st := []) (st' := []) X (c_M_begin l cx nx N D P _ z1 e1) dX9_first_1 w_869 m_M_begin rfl hk0 (ci := 9) rfl rfl ⟨by decide, by decide⟩ ⟨Nat.zero_le _, Nat.zero_le _⟩ rfl (Nat.le_of_ble_eq_true rfl) rfl ?_
  refine x_aload_n (pc := 4) X dX9_first_4 (i := 0) rfl 0 rfl ?_
  refine x_bipush (v := 12) (pc := 5) X dX9_first_5 (by decide) ?_
  obtain ⟨z2, e2, h⟩ := bnds h
  refine x_callV (pc := 7) (As := [.int 12]) (st := []) (st' := []) X (c_M_tellPerson l cx nx N z1 P _ _ z2 e2) dX9_first_7 w_877 m_M_tellPerson rfl hk0 (ci := 9) rfl rfl ⟨by decide, by decide⟩ ⟨Nat.zero_le _, Nat.zero_le _⟩ rfl (Nat.le_of_ble_eq_true rfl) rfl ?_
  refine x_aload_n (pc := 10) X dX9_first_10 (i := 0) rfl 0 rfl ?_
  refine x_bipush (v := 20) (pc := 11) X dX9_first_11 (by decide) ?_
  obtain ⟨z3, e3, h⟩ := bnds h
  refine x_callV (pc := 13) (As := [.int 20]) (st := []) (st' := []) X (c_M_tellPerson l cx nx N z2 P _ _ z3 e3) dX9_first_13 w_877 m_M_tellPerson rfl hk0 (ci := 9) rfl rfl ⟨by decide, by decide⟩ ⟨Nat.zero_le _, Nat.zero_le _⟩ rfl (Nat.le_of_ble_eq_true rfl) rfl ?_
  refine x_aload_n (pc := 16) X dX9_first_16 (i := 0) rfl 0 rfl ?_
  refine x_bipush (v := 9) (pc := 17) X dX9_first_17 (by decide) ?_
  obtain ⟨z4, e4, h⟩ := bnds h
  refine x_callV (pc := 19) (As := [.int 9]) (st := []) (st' := []) X (c_M_tellPerson l cx nx N z3 P _ _ z4 e4) dX9_first_19 w_877 m_M_tellPerson rfl hk0 (ci := 9) rfl rfl ⟨by decide, by decide⟩ ⟨Nat.zero_le _, Nat.zero_le _⟩ rfl (Nat.le_of_ble_eq_true rfl) rfl ?_
  refine x_aload_n (pc := 22) X dX9_first_22 (i := 0) rfl 0 rfl ?_
  refine x_bipush (v := 15) (pc := 23) X dX9_first_23 (by decide) ?_
  obtain ⟨z5, e5, h⟩ := bnds h
  refine x_callV (pc := 25) (As := [.int 15]) (st := []) (st' := []) X (c_M_tellPerson l cx nx N z4 P _ _ z5 e5) dX9_first_25 w_877 m_M_tellPerson rfl hk0 (ci := 9) rfl rfl ⟨by decide, by decide⟩ ⟨Nat.zero_le _, Nat.zero_le _⟩ rfl (Nat.le_of_ble_eq_true rfl) rfl ?_
  refine x_aload_n (pc := 28) X dX9_first_28 (i := 0) rfl 0 rfl ?_
  refine x_iconst (v := 0) (pc := 29) X dX9_first_29 (by decide) ?_
  refine x_iconst (v := 0) (pc := 30) X dX9_first_30 (by decide) ?_
  refine x_iconst (v := 5) (pc := 31) X dX9_first_31 (by decide) ?_
  obtain ⟨z6, e6, h⟩ := bnds h
  refine x_callV (pc := 32) (As := [.int 0, .int 0, .int 5]) (st := []) (st' := []) X (c_M_tellPin l cx nx N z5 P _ _ _ _ z6 e6) dX9_first_32 w_881 m_M_tellPin rfl hk0 (ci := 9) rfl rfl ⟨by decide, by decide⟩ ⟨Nat.zero_le _, Nat.zero_le _⟩ rfl (Nat.le_of_ble_eq_true rfl) rfl ?_
  refine x_aload_n (pc := 35) X dX9_first_35 (i := 0) rfl 0 rfl ?_
  refine x_iconst (v := 0) (pc := 36) X dX9_first_36 (by decide) ?_
  refine x_iconst (v := 1) (pc := 37) X dX9_first_37 (by decide) ?_
  refine x_iconst (v := 3) (pc := 38) X dX9_first_38 (by decide) ?_
  obtain ⟨z7, e7, h⟩ := bnds h
  refine x_callV (pc := 39) (As := [.int 0, .int 1, .int 3]) (st := []) (st' := []) X (c_M_tellPin l cx nx N z6 P _ _ _ _ z7 e7) dX9_first_39 w_881 m_M_tellPin rfl hk0 (ci := 9) rfl rfl ⟨by decide, by decide⟩ ⟨Nat.zero_le _, Nat.zero_le _⟩ rfl (Nat.le_of_ble_eq_true rfl) rfl ?_
  refine x_aload_n (pc := 42) X dX9_first_42 (i := 0) rfl 0 rfl ?_
  refine x_iconst (v := 1) (pc := 43) X dX9_first_43 (by decide) ?_
  refine x_iconst (v := 2) (pc := 44) X dX9_first_44 (by decide) ?_
  refine x_bipush (v := 9) (pc := 45) X dX9_first_45 (by decide) ?_
  obtain ⟨z8, e8, h⟩ := bnds h
  refine x_callV (pc := 47) (As := [.int 1, .int 2, .int 9]) (st := []) (st' := []) X (c_M_tellPin l cx nx N z7 P _ _ _ _ z8 e8) dX9_first_47 w_881 m_M_tellPin rfl hk0 (ci := 9) rfl rfl ⟨by decide, by decide⟩ ⟨Nat.zero_le _, Nat.zero_le _⟩ rfl (Nat.le_of_ble_eq_true rfl) rfl ?_
  refine x_aload_n (pc := 50) X dX9_first_50 (i := 0) rfl 0 rfl ?_
  refine x_iconst (v := 1) (pc := 51) X dX9_first_51 (by decide) ?_
  refine x_iconst (v := 3) (pc := 52) X dX9_first_52 (by decide) ?_
  refine x_iconst (v := 4) (pc := 53) X dX9_first_53 (by decide) ?_
  obtain ⟨z9, e9, h⟩ := bnds h
  refine x_callV (pc := 54) (As := [.int 1, .int 3, .int 4]) (st := []) (st' := []) X (c_M_tellPin l cx nx N z8 P _ _ _ _ z9 e9) dX9_first_54 w_881 m_M_tellPin rfl hk0 (ci := 9) rfl rfl ⟨by decide, by decide⟩ ⟨Nat.zero_le _, Nat.zero_le _⟩ rfl (Nat.le_of_ble_eq_true rfl) rfl ?_
  refine x_aload_n (pc := 57) X dX9_first_57 (i := 0) rfl 0 rfl ?_
  refine x_iconst (v := 2) (pc := 58) X dX9_first_58 (by decide) ?_
  refine x_iconst (v := 1) (pc := 59) X dX9_first_59 (by decide) ?_
  refine x_bipush (v := 6) (pc := 60) X dX9_first_60 (by decide) ?_
  obtain ⟨z10, e10, h⟩ := bnds h
  refine x_callV (pc := 62) (As := [.int 2, .int 1, .int 6]) (st := []) (st' := []) X (c_M_tellPin l cx nx N z9 P _ _ _ _ z10 e10) dX9_first_62 w_881 m_M_tellPin rfl hk0 (ci := 9) rfl rfl ⟨by decide, by decide⟩ ⟨Nat.zero_le _, Nat.zero_le _⟩ rfl (Nat.le_of_ble_eq_true rfl) rfl ?_
  refine x_aload_n (pc := 65) X dX9_first_65 (i := 0) rfl 0 rfl ?_
  refine x_iconst (v := 2) (pc := 66) X dX9_first_66 (by decide) ?_
  refine x_iconst (v := 0) (pc := 67) X dX9_first_67 (by decide) ?_
  refine x_iconst (v := 2) (pc := 68) X dX9_first_68 (by decide) ?_
  obtain ⟨z11, e11, h⟩ := bnds h
  refine x_callV (pc := 69) (As := [.int 2, .int 0, .int 2]) (st := []) (st' := []) X (c_M_tellPin l cx nx N z10 P _ _ _ _ z11 e11) dX9_first_69 w_881 m_M_tellPin rfl hk0 (ci := 9) rfl rfl ⟨by decide, by decide⟩ ⟨Nat.zero_le _, Nat.zero_le _⟩ rfl (Nat.le_of_ble_eq_true rfl) rfl ?_
  refine x_aload_n (pc := 72) X dX9_first_72 (i := 0) rfl 0 rfl ?_
  refine x_iconst (v := 3) (pc := 73) X dX9_first_73 (by decide) ?_
  refine x_iconst (v := 3) (pc := 74) X dX9_first_74 (by decide) ?_
  refine x_bipush (v := 7) (pc := 75) X dX9_first_75 (by decide) ?_
  obtain ⟨z12, e12, h⟩ := bnds h
  refine x_callV (pc := 77) (As := [.int 3, .int 3, .int 7]) (st := []) (st' := []) X (c_M_tellPin l cx nx N z11 P _ _ _ _ z12 e12) dX9_first_77 w_881 m_M_tellPin rfl hk0 (ci := 9) rfl rfl ⟨by decide, by decide⟩ ⟨Nat.zero_le _, Nat.zero_le _⟩ rfl (Nat.le_of_ble_eq_true rfl) rfl ?_
  refine x_aload_n (pc := 80) X dX9_first_80 (i := 0) rfl 0 rfl ?_
  refine x_iconst (v := 3) (pc := 81) X dX9_first_81 (by decide) ?_
  refine x_iconst (v := 2) (pc := 82) X dX9_first_82 (by decide) ?_
  refine x_iconst (v := 4) (pc := 83) X dX9_first_83 (by decide) ?_
  obtain ⟨z13, e13, h⟩ := bnds h
  refine x_callV (pc := 84) (As := [.int 3, .int 2, .int 4]) (st := []) (st' := []) X (c_M_tellPin l cx nx N z12 P _ _ _ _ z13 e13) dX9_first_84 w_881 m_M_tellPin rfl hk0 (ci := 9) rfl rfl ⟨by decide, by decide⟩ ⟨Nat.zero_le _, Nat.zero_le _⟩ rfl (Nat.le_of_ble_eq_true rfl) rfl ?_
  refine x_aload_n (pc := 87) X dX9_first_87 (i := 0) rfl 0 rfl ?_
  refine x_bipush (v := 10) (pc := 88) X dX9_first_88 (by decide) ?_
  refine x_iconst (v := 4) (pc := 90) X dX9_first_90 (by decide) ?_
  refine x_bipush (v := 9) (pc := 91) X dX9_first_91 (by decide) ?_
  obtain ⟨z14, e14, h⟩ := bnds h
  refine x_callV (pc := 93) (As := [.int 10, .int 4, .int 9]) (st := []) (st' := []) X (c_M_tellHeart l cx nx N z13 P _ _ _ _ z14 e14) dX9_first_93 w_873 m_M_tellHeart rfl hk0 (ci := 9) rfl rfl ⟨by decide, by decide⟩ ⟨Nat.zero_le _, Nat.zero_le _⟩ rfl (Nat.le_of_ble_eq_true rfl) rfl ?_
  obtain rfl := Option.some.inj h
  exact x_vret (pc := 96) X dX9_first_96
theorem dX9_takeDraft_0 : decode cX9_takeDraft 0 = .ok (.aload_n 0, 1) := by decide +kernel
theorem dX9_takeDraft_1 : decode cX9_takeDraft 1 = .ok (.getfield 13, 3) := by decide +kernel
theorem dX9_takeDraft_4 : decode cX9_takeDraft 4 = .ok (.iconst 0, 1) := by decide +kernel
theorem dX9_takeDraft_5 : decode cX9_takeDraft 5 = .ok (.aload_n 0, 1) := by decide +kernel
theorem dX9_takeDraft_6 : decode cX9_takeDraft 6 = .ok (.getfield 13, 3) := by decide +kernel
theorem dX9_takeDraft_9 : decode cX9_takeDraft 9 = .ok (.iconst 1, 1) := by decide +kernel
theorem dX9_takeDraft_10 : decode cX9_takeDraft 10 = .ok (.iaload, 1) := by decide +kernel
theorem dX9_takeDraft_11 : decode cX9_takeDraft 11 = .ok (.iastore, 1) := by decide +kernel
theorem dX9_takeDraft_12 : decode cX9_takeDraft 12 = .ok (.aload_n 0, 1) := by decide +kernel
theorem dX9_takeDraft_13 : decode cX9_takeDraft 13 = .ok (.getfield 17, 3) := by decide +kernel
theorem dX9_takeDraft_16 : decode cX9_takeDraft 16 = .ok (.iconst 0, 1) := by decide +kernel
theorem dX9_takeDraft_17 : decode cX9_takeDraft 17 = .ok (.aload_n 0, 1) := by decide +kernel
theorem dX9_takeDraft_18 : decode cX9_takeDraft 18 = .ok (.getfield 17, 3) := by decide +kernel
theorem dX9_takeDraft_21 : decode cX9_takeDraft 21 = .ok (.iconst 1, 1) := by decide +kernel
theorem dX9_takeDraft_22 : decode cX9_takeDraft 22 = .ok (.iaload, 1) := by decide +kernel
theorem dX9_takeDraft_23 : decode cX9_takeDraft 23 = .ok (.iastore, 1) := by decide +kernel
theorem dX9_takeDraft_24 : decode cX9_takeDraft 24 = .ok (.iconst 0, 1) := by decide +kernel
theorem dX9_takeDraft_25 : decode cX9_takeDraft 25 = .ok (.istore_n 1, 1) := by decide +kernel
theorem dX9_takeDraft_26 : decode cX9_takeDraft 26 = .ok (.iload_n 1, 1) := by decide +kernel
theorem dX9_takeDraft_27 : decode cX9_takeDraft 27 = .ok (.iconst 3, 1) := by decide +kernel
theorem dX9_takeDraft_28 : decode cX9_takeDraft 28 = .ok (.if_icmp .ge 23, 3) := by decide +kernel
theorem dX9_takeDraft_31 : decode cX9_takeDraft 31 = .ok (.aload_n 0, 1) := by decide +kernel
theorem dX9_takeDraft_32 : decode cX9_takeDraft 32 = .ok (.getfield 20, 3) := by decide +kernel
theorem dX9_takeDraft_35 : decode cX9_takeDraft 35 = .ok (.iload_n 1, 1) := by decide +kernel
theorem dX9_takeDraft_36 : decode cX9_takeDraft 36 = .ok (.aload_n 0, 1) := by decide +kernel
theorem dX9_takeDraft_37 : decode cX9_takeDraft 37 = .ok (.getfield 20, 3) := by decide +kernel
theorem dX9_takeDraft_40 : decode cX9_takeDraft 40 = .ok (.iconst 3, 1) := by decide +kernel
theorem dX9_takeDraft_41 : decode cX9_takeDraft 41 = .ok (.iload_n 1, 1) := by decide +kernel
theorem dX9_takeDraft_42 : decode cX9_takeDraft 42 = .ok (.iadd, 1) := by decide +kernel
theorem dX9_takeDraft_43 : decode cX9_takeDraft 43 = .ok (.iaload, 1) := by decide +kernel
theorem dX9_takeDraft_44 : decode cX9_takeDraft 44 = .ok (.iastore, 1) := by decide +kernel
theorem dX9_takeDraft_45 : decode cX9_takeDraft 45 = .ok (.iinc 1 1, 3) := by decide +kernel
theorem dX9_takeDraft_48 : decode cX9_takeDraft 48 = .ok (.goto (-22), 3) := by decide +kernel
theorem dX9_takeDraft_51 : decode cX9_takeDraft 51 = .ok (.iconst 0, 1) := by decide +kernel
theorem dX9_takeDraft_52 : decode cX9_takeDraft 52 = .ok (.istore_n 1, 1) := by decide +kernel
theorem dX9_takeDraft_53 : decode cX9_takeDraft 53 = .ok (.iload_n 1, 1) := by decide +kernel
theorem dX9_takeDraft_54 : decode cX9_takeDraft 54 = .ok (.iconst 5, 1) := by decide +kernel
theorem dX9_takeDraft_55 : decode cX9_takeDraft 55 = .ok (.if_icmp .ge 23, 3) := by decide +kernel
theorem dX9_takeDraft_58 : decode cX9_takeDraft 58 = .ok (.aload_n 0, 1) := by decide +kernel
theorem dX9_takeDraft_59 : decode cX9_takeDraft 59 = .ok (.getfield 23, 3) := by decide +kernel
theorem dX9_takeDraft_62 : decode cX9_takeDraft 62 = .ok (.iload_n 1, 1) := by decide +kernel
theorem dX9_takeDraft_63 : decode cX9_takeDraft 63 = .ok (.aload_n 0, 1) := by decide +kernel
theorem dX9_takeDraft_64 : decode cX9_takeDraft 64 = .ok (.getfield 23, 3) := by decide +kernel
theorem dX9_takeDraft_67 : decode cX9_takeDraft 67 = .ok (.iconst 5, 1) := by decide +kernel
theorem dX9_takeDraft_68 : decode cX9_takeDraft 68 = .ok (.iload_n 1, 1) := by decide +kernel
theorem dX9_takeDraft_69 : decode cX9_takeDraft 69 = .ok (.iadd, 1) := by decide +kernel
theorem dX9_takeDraft_70 : decode cX9_takeDraft 70 = .ok (.iaload, 1) := by decide +kernel
theorem dX9_takeDraft_71 : decode cX9_takeDraft 71 = .ok (.iastore, 1) := by decide +kernel
theorem dX9_takeDraft_72 : decode cX9_takeDraft 72 = .ok (.iinc 1 1, 3) := by decide +kernel
theorem dX9_takeDraft_75 : decode cX9_takeDraft 75 = .ok (.goto (-22), 3) := by decide +kernel
theorem dX9_takeDraft_78 : decode cX9_takeDraft 78 = .ok (.aload_n 0, 1) := by decide +kernel
theorem dX9_takeDraft_79 : decode cX9_takeDraft 79 = .ok (.getfield 35, 3) := by decide +kernel
theorem dX9_takeDraft_82 : decode cX9_takeDraft 82 = .ok (.iconst 0, 1) := by decide +kernel
theorem dX9_takeDraft_83 : decode cX9_takeDraft 83 = .ok (.iconst 0, 1) := by decide +kernel
theorem dX9_takeDraft_84 : decode cX9_takeDraft 84 = .ok (.iastore, 1) := by decide +kernel
theorem dX9_takeDraft_85 : decode cX9_takeDraft 85 = .ok (.aload_n 0, 1) := by decide +kernel
theorem dX9_takeDraft_86 : decode cX9_takeDraft 86 = .ok (.getfield 35, 3) := by decide +kernel
theorem dX9_takeDraft_89 : decode cX9_takeDraft 89 = .ok (.iconst 1, 1) := by decide +kernel
theorem dX9_takeDraft_90 : decode cX9_takeDraft 90 = .ok (.iconst 0, 1) := by decide +kernel
theorem dX9_takeDraft_91 : decode cX9_takeDraft 91 = .ok (.iastore, 1) := by decide +kernel
theorem dX9_takeDraft_92 : decode cX9_takeDraft 92 = .ok (.iconst 0, 1) := by decide +kernel
theorem dX9_takeDraft_93 : decode cX9_takeDraft 93 = .ok (.istore_n 1, 1) := by decide +kernel
theorem dX9_takeDraft_94 : decode cX9_takeDraft 94 = .ok (.iload_n 1, 1) := by decide +kernel
theorem dX9_takeDraft_95 : decode cX9_takeDraft 95 = .ok (.bipush 8, 2) := by decide +kernel
theorem dX9_takeDraft_97 : decode cX9_takeDraft 97 = .ok (.if_icmp .ge 100, 3) := by decide +kernel
theorem dX9_takeDraft_100 : decode cX9_takeDraft 100 = .ok (.aload_n 0, 1) := by decide +kernel
theorem dX9_takeDraft_101 : decode cX9_takeDraft 101 = .ok (.getfield 26, 3) := by decide +kernel
theorem dX9_takeDraft_104 : decode cX9_takeDraft 104 = .ok (.iload_n 1, 1) := by decide +kernel
theorem dX9_takeDraft_105 : decode cX9_takeDraft 105 = .ok (.aload_n 0, 1) := by decide +kernel
theorem dX9_takeDraft_106 : decode cX9_takeDraft 106 = .ok (.getfield 26, 3) := by decide +kernel
theorem dX9_takeDraft_109 : decode cX9_takeDraft 109 = .ok (.bipush 8, 2) := by decide +kernel
theorem dX9_takeDraft_111 : decode cX9_takeDraft 111 = .ok (.iload_n 1, 1) := by decide +kernel
theorem dX9_takeDraft_112 : decode cX9_takeDraft 112 = .ok (.iadd, 1) := by decide +kernel
theorem dX9_takeDraft_113 : decode cX9_takeDraft 113 = .ok (.iaload, 1) := by decide +kernel
theorem dX9_takeDraft_114 : decode cX9_takeDraft 114 = .ok (.iastore, 1) := by decide +kernel
theorem dX9_takeDraft_115 : decode cX9_takeDraft 115 = .ok (.aload_n 0, 1) := by decide +kernel
theorem dX9_takeDraft_116 : decode cX9_takeDraft 116 = .ok (.getfield 29, 3) := by decide +kernel
theorem dX9_takeDraft_119 : decode cX9_takeDraft 119 = .ok (.iload_n 1, 1) := by decide +kernel
theorem dX9_takeDraft_120 : decode cX9_takeDraft 120 = .ok (.aload_n 0, 1) := by decide +kernel
theorem dX9_takeDraft_121 : decode cX9_takeDraft 121 = .ok (.getfield 29, 3) := by decide +kernel
theorem dX9_takeDraft_124 : decode cX9_takeDraft 124 = .ok (.bipush 8, 2) := by decide +kernel
theorem dX9_takeDraft_126 : decode cX9_takeDraft 126 = .ok (.iload_n 1, 1) := by decide +kernel
theorem dX9_takeDraft_127 : decode cX9_takeDraft 127 = .ok (.iadd, 1) := by decide +kernel
theorem dX9_takeDraft_128 : decode cX9_takeDraft 128 = .ok (.iaload, 1) := by decide +kernel
theorem dX9_takeDraft_129 : decode cX9_takeDraft 129 = .ok (.iastore, 1) := by decide +kernel
theorem dX9_takeDraft_130 : decode cX9_takeDraft 130 = .ok (.aload_n 0, 1) := by decide +kernel
theorem dX9_takeDraft_131 : decode cX9_takeDraft 131 = .ok (.getfield 35, 3) := by decide +kernel
theorem dX9_takeDraft_134 : decode cX9_takeDraft 134 = .ok (.iconst 2, 1) := by decide +kernel
theorem dX9_takeDraft_135 : decode cX9_takeDraft 135 = .ok (.iload_n 1, 1) := by decide +kernel
theorem dX9_takeDraft_136 : decode cX9_takeDraft 136 = .ok (.iadd, 1) := by decide +kernel
theorem dX9_takeDraft_137 : decode cX9_takeDraft 137 = .ok (.iload_n 1, 1) := by decide +kernel
theorem dX9_takeDraft_138 : decode cX9_takeDraft 138 = .ok (.aload_n 0, 1) := by decide +kernel
theorem dX9_takeDraft_139 : decode cX9_takeDraft 139 = .ok (.getfield 17, 3) := by decide +kernel
theorem dX9_takeDraft_142 : decode cX9_takeDraft 142 = .ok (.iconst 0, 1) := by decide +kernel
theorem dX9_takeDraft_143 : decode cX9_takeDraft 143 = .ok (.iaload, 1) := by decide +kernel
theorem dX9_takeDraft_144 : decode cX9_takeDraft 144 = .ok (.if_icmp .ge 12, 3) := by decide +kernel
theorem dX9_takeDraft_147 : decode cX9_takeDraft 147 = .ok (.aload_n 0, 1) := by decide +kernel
theorem dX9_takeDraft_148 : decode cX9_takeDraft 148 = .ok (.getfield 26, 3) := by decide +kernel
theorem dX9_takeDraft_151 : decode cX9_takeDraft 151 = .ok (.iload_n 1, 1) := by decide +kernel
theorem dX9_takeDraft_152 : decode cX9_takeDraft 152 = .ok (.iaload, 1) := by decide +kernel
theorem dX9_takeDraft_153 : decode cX9_takeDraft 153 = .ok (.goto 5, 3) := by decide +kernel
theorem dX9_takeDraft_156 : decode cX9_takeDraft 156 = .ok (.bipush 7, 2) := by decide +kernel
theorem dX9_takeDraft_158 : decode cX9_takeDraft 158 = .ok (.iastore, 1) := by decide +kernel
theorem dX9_takeDraft_159 : decode cX9_takeDraft 159 = .ok (.aload_n 0, 1) := by decide +kernel
theorem dX9_takeDraft_160 : decode cX9_takeDraft 160 = .ok (.getfield 35, 3) := by decide +kernel
theorem dX9_takeDraft_163 : decode cX9_takeDraft 163 = .ok (.bipush 10, 2) := by decide +kernel
theorem dX9_takeDraft_165 : decode cX9_takeDraft 165 = .ok (.iload_n 1, 1) := by decide +kernel
theorem dX9_takeDraft_166 : decode cX9_takeDraft 166 = .ok (.iadd, 1) := by decide +kernel
theorem dX9_takeDraft_167 : decode cX9_takeDraft 167 = .ok (.iload_n 1, 1) := by decide +kernel
theorem dX9_takeDraft_168 : decode cX9_takeDraft 168 = .ok (.aload_n 0, 1) := by decide +kernel
theorem dX9_takeDraft_169 : decode cX9_takeDraft 169 = .ok (.getfield 17, 3) := by decide +kernel
theorem dX9_takeDraft_172 : decode cX9_takeDraft 172 = .ok (.iconst 0, 1) := by decide +kernel
theorem dX9_takeDraft_173 : decode cX9_takeDraft 173 = .ok (.iaload, 1) := by decide +kernel
theorem dX9_takeDraft_174 : decode cX9_takeDraft 174 = .ok (.if_icmp .ge 15, 3) := by decide +kernel
theorem dX9_takeDraft_177 : decode cX9_takeDraft 177 = .ok (.aload_n 0, 1) := by decide +kernel
theorem dX9_takeDraft_178 : decode cX9_takeDraft 178 = .ok (.getfield 32, 3) := by decide +kernel
theorem dX9_takeDraft_181 : decode cX9_takeDraft 181 = .ok (.bipush 8, 2) := by decide +kernel
theorem dX9_takeDraft_183 : decode cX9_takeDraft 183 = .ok (.iload_n 1, 1) := by decide +kernel
theorem dX9_takeDraft_184 : decode cX9_takeDraft 184 = .ok (.iadd, 1) := by decide +kernel
theorem dX9_takeDraft_185 : decode cX9_takeDraft 185 = .ok (.iaload, 1) := by decide +kernel
theorem dX9_takeDraft_186 : decode cX9_takeDraft 186 = .ok (.goto 4, 3) := by decide +kernel
theorem dX9_takeDraft_189 : decode cX9_takeDraft 189 = .ok (.iconst 0, 1) := by decide +kernel
theorem dX9_takeDraft_190 : decode cX9_takeDraft 190 = .ok (.iastore, 1) := by decide +kernel
theorem dX9_takeDraft_191 : decode cX9_takeDraft 191 = .ok (.iinc 1 1, 3) := by decide +kernel
theorem dX9_takeDraft_194 : decode cX9_takeDraft 194 = .ok (.goto (-100), 3) := by decide +kernel
theorem dX9_takeDraft_197 : decode cX9_takeDraft 197 = .ok (.aload_n 0, 1) := by decide +kernel
theorem dX9_takeDraft_198 : decode cX9_takeDraft 198 = .ok (.iconst 0, 1) := by decide +kernel
theorem dX9_takeDraft_199 : decode cX9_takeDraft 199 = .ok (.putfield 133, 3) := by decide +kernel
theorem dX9_takeDraft_202 : decode cX9_takeDraft 202 = .ok (.aload_n 0, 1) := by decide +kernel
theorem dX9_takeDraft_203 : decode cX9_takeDraft 203 = .ok (.iconst 0, 1) := by decide +kernel
theorem dX9_takeDraft_204 : decode cX9_takeDraft 204 = .ok (.putfield 136, 3) := by decide +kernel
theorem dX9_takeDraft_207 : decode cX9_takeDraft 207 = .ok (.aload_n 0, 1) := by decide +kernel
theorem dX9_takeDraft_208 : decode cX9_takeDraft 208 = .ok (.iconst 0, 1) := by decide +kernel
theorem dX9_takeDraft_209 : decode cX9_takeDraft 209 = .ok (.putfield 139, 3) := by decide +kernel
theorem dX9_takeDraft_212 : decode cX9_takeDraft 212 = .ok (.aload_n 0, 1) := by decide +kernel
theorem dX9_takeDraft_213 : decode cX9_takeDraft 213 = .ok (.iconst 0, 1) := by decide +kernel
theorem dX9_takeDraft_214 : decode cX9_takeDraft 214 = .ok (.putfield 142, 3) := by decide +kernel
theorem dX9_takeDraft_217 : decode cX9_takeDraft 217 = .ok (.return_, 1) := by decide +kernel
def f_M_takeDraft_158 (N nx : Nat) (rec94 : Dt → Int32 → Option Dt) (D : Dt) (P : Ft) (a0 : Nat) (i1 : Int32) (s0 : Nat) (s1 : Int32) (s2 : Int32) : Option Dt :=
  if ab nx s0 3 s1 = true then
  pas (upd2 D s0 s1.toNatClampNeg s2) fun D23 =>
  nn (P a0 11) fun q24 =>
  nn (P a0 3) fun q25 =>
  if ab nx q25 3 0 = true then
  if D23 q25 (0 : Int32).toNatClampNeg ≤ i1 then
    if ab nx q24 3 (10 + i1) = true then
    pas (upd2 D23 q24 (10 + i1).toNatClampNeg 0) fun D27 =>
    rec94 D27 (i1 + 1)
    else none
  else
    nn (P a0 8) fun q28 =>
    if ab nx q28 3 (8 + i1) = true then
    if ab nx q24 3 (10 + i1) = true then
    pas (upd2 D23 q24 (10 + i1).toNatClampNeg (D23 q28 (8 + i1).toNatClampNeg)) fun D30 =>
    rec94 D30 (i1 + 1)
    else none
    else none
  else none
  else none
def f_M_takeDraft_94 (N nx : Nat) (P : Ft) (a0 : Nat) (rec94 : Dt → Int32 → Option Dt) (D : Dt) (i1 : Int32) : Option Dt :=
  if 8 ≤ i1 then
    pas (upd2 D a0 13 0) fun D10 =>
    pas (upd2 D10 a0 15 0) fun D11 =>
    pas (upd2 D11 a0 22 0) fun D12 =>
    pas (upd2 D12 a0 24 0) fun D13 =>
    some D13
  else
    nn (P a0 6) fun q14 =>
    if ab nx q14 3 (8 + i1) = true then
    if ab nx q14 3 i1 = true then
    pas (upd2 D q14 i1.toNatClampNeg (D q14 (8 + i1).toNatClampNeg)) fun D16 =>
    nn (P a0 7) fun q17 =>
    if ab nx q17 3 (8 + i1) = true then
    if ab nx q17 3 i1 = true then
    pas (upd2 D16 q17 i1.toNatClampNeg (D16 q17 (8 + i1).toNatClampNeg)) fun D19 =>
    nn (P a0 11) fun q20 =>
    nn (P a0 3) fun q21 =>
    if ab nx q21 3 0 = true then
    if D19 q21 (0 : Int32).toNatClampNeg ≤ i1 then
      f_M_takeDraft_158 N nx rec94 D19 P a0 i1 q20 (2 + i1) 7
    else
      if ab nx q14 3 i1 = true then
      f_M_takeDraft_158 N nx rec94 D19 P a0 i1 q20 (2 + i1) (D19 q14 i1.toNatClampNeg)
      else none
    else none
    else none
    else none
    else none
    else none
def f_M_takeDraft_53 (N nx : Nat) (P : Ft) (a0 : Nat) (rec53 : Dt → Int32 → Option Dt) (D : Dt) (i1 : Int32) : Option Dt :=
  if 5 ≤ i1 then
    nn (P a0 11) fun q7 =>
    if ab nx q7 3 0 = true then
    pas (upd2 D q7 (0 : Int32).toNatClampNeg 0) fun D8 =>
    if ab nx q7 3 1 = true then
    pas (upd2 D8 q7 (1 : Int32).toNatClampNeg 0) fun D9 =>
    wk2 N (f_M_takeDraft_94 N nx P a0) D9 0
    else none
    else none
  else
    nn (P a0 5) fun q35 =>
    if ab nx q35 3 (5 + i1) = true then
    if ab nx q35 3 i1 = true then
    pas (upd2 D q35 i1.toNatClampNeg (D q35 (5 + i1).toNatClampNeg)) fun D37 =>
    rec53 D37 (i1 + 1)
    else none
    else none
def f_M_takeDraft_26 (N nx : Nat) (P : Ft) (a0 : Nat) (rec26 : Dt → Int32 → Option Dt) (D : Dt) (i1 : Int32) : Option Dt :=
  if 3 ≤ i1 then
    wk2 N (f_M_takeDraft_53 N nx P a0) D 0
  else
    nn (P a0 4) fun q39 =>
    if ab nx q39 3 (3 + i1) = true then
    if ab nx q39 3 i1 = true then
    pas (upd2 D q39 i1.toNatClampNeg (D q39 (3 + i1).toNatClampNeg)) fun D41 =>
    rec26 D41 (i1 + 1)
    else none
    else none
def f_M_takeDraft (N nx : Nat) (D : Dt) (P : Ft) (a0 : Nat) : Option Dt :=
  if kd nx a0 = 9 then
  nn (P a0 2) fun q1 =>
  if ab nx q1 3 1 = true then
  if ab nx q1 3 0 = true then
  pas (upd2 D q1 (0 : Int32).toNatClampNeg (D q1 (1 : Int32).toNatClampNeg)) fun D3 =>
  nn (P a0 3) fun q4 =>
  if ab nx q4 3 1 = true then
  if ab nx q4 3 0 = true then
  pas (upd2 D3 q4 (0 : Int32).toNatClampNeg (D3 q4 (1 : Int32).toNatClampNeg)) fun D6 =>
  wk2 N (f_M_takeDraft_26 N nx P a0) D6 0
  else none
  else none
  else none
  else none
  else none
theorem m_M_takeDraft : MV yX9_takeDraft cX9_takeDraft 2 none 0 := ⟨mT 888 (by decide +kernel) rfl, mT 887 (by decide +kernel) rfl, mT 22 (by decide +kernel) rfl, mT 68 (by decide +kernel) rfl, by decide +kernel, by decide +kernel, by decide +kernel⟩
set_option maxHeartbeats 4000000 in
set_option maxRecDepth 100000 in
theorem c_M_takeDraft (l : Launch) (cx : Cx) (nx N : Nat) (D : Dt) (P : Ft) (a0 : Nat) (z : Dt) (h : f_M_takeDraft N nx D P a0 = some z) : Ct l cx yX9_takeDraft cX9_takeDraft 2 none 0 [.ref (cx.2.2 + a0)] D P nx none z P := by
  refine x_met0 (by decide) (Nat.le_of_ble_eq_true rfl) ?_
  intro p e s m args below meth c X
  have X : XC p s m args meth c cx cX9_takeDraft 2 none "HeartPinsModel" "takeDraft" := X
  refine XW.sub (lv' := [(0, .ref (cx.2.2 + a0))]) [0] rfl ?_
  unfold f_M_takeDraft at h
  obtain ⟨hk0, h⟩ := grd h
  have hL94 : ∀ (n : Nat) (D : Dt) (i1 : Int32), wk2 n (f_M_takeDraft_94 N nx P a0) D i1 = some z → XW p l e (rmk 0) s m args below meth c (MQ below (Qx cx none z P nx) args s 0 0 (AA cx)) cx 2 D P nx 0 0 94 [(0, .ref (cx.2.2 + a0)), (1, .int i1)] [] := by
    intro n
    induction n with
    | zero => intro D i1 h; exact (nonz h).elim
    | succ n ih94 =>
      intro D i1 h
      have h : f_M_takeDraft_94 N nx P a0 (wk2 n (f_M_takeDraft_94 N nx P a0)) D i1 = some z := h
      generalize wk2 n (f_M_takeDraft_94 N nx P a0) = rec94 at ih94 h
      unfold f_M_takeDraft_94 at h
      have hJ158 : ∀ (D : Dt) (i1 : Int32) (s0 : Nat) (s1 : Int32) (s2 : Int32), f_M_takeDraft_158 N nx rec94 D P a0 i1 s0 s1 s2 = some z → XW p l e (rmk 0) s m args below meth c (MQ below (Qx cx none z P nx) args s 0 0 (AA cx)) cx 2 D P nx 0 0 158 [(0, .ref (cx.2.2 + a0)), (1, .int i1)] [.int s2, .int s1, .ref (cx.2.2 + s0)] := by
        intro D i1 s0 s1 s2 h
        unfold f_M_takeDraft_158 at h
        obtain ⟨g23, h⟩ := grd h
        obtain ⟨D23, w23, h⟩ := pass h
        refine x_iast (D' := D23) (pc := 158) X dX9_takeDraft_158 g23 w23 ?_
        refine x_aload_n (pc := 159) X dX9_takeDraft_159 (i := 0) rfl 0 rfl ?_
        obtain ⟨q24, e24, h⟩ := nns h
        refine x_getr (ci := 9) (k := 11) (n := 26) (C := RX9) (T := TX9) (pc := 160) X dX9_takeDraft_160 hk0 rfl (by decide) w_900 rfl e24 ?_
        refine x_bipush (v := 10) (pc := 163) X dX9_takeDraft_163 (by decide) ?_
        refine x_iload_n (pc := 165) X dX9_takeDraft_165 (i := 1) rfl 1 rfl ?_
        refine x_iadd (pc := 166) X dX9_takeDraft_166 ?_
        refine x_iload_n (pc := 167) X dX9_takeDraft_167 (i := 1) rfl 1 rfl ?_
        refine x_aload_n (pc := 168) X dX9_takeDraft_168 (i := 0) rfl 0 rfl ?_
        obtain ⟨q25, e25, h⟩ := nns h
        refine x_getr (ci := 9) (k := 3) (n := 26) (C := RX9) (T := TX9) (pc := 169) X dX9_takeDraft_169 hk0 rfl (by decide) w_892 rfl e25 ?_
        refine x_iconst (v := 0) (pc := 172) X dX9_takeDraft_172 (by decide) ?_
        obtain ⟨g26, h⟩ := grd h
        refine x_iald (pc := 173) X dX9_takeDraft_173 g26 ?_
        refine x_icmp_ge (tgt := 189) (pc := 174) X dX9_takeDraft_174 (by decide) (fun c31 => ?_) (fun c31 => ?_)
        · have h := ite_t c31 h
          refine x_iconst (v := 0) (pc := 189) X dX9_takeDraft_189 (by decide) ?_
          obtain ⟨g27, h⟩ := grd h
          obtain ⟨D27, w27, h⟩ := pass h
          refine x_iast (D' := D27) (pc := 190) X dX9_takeDraft_190 g27 w27 ?_
          refine x_iinc (v := i1 + 1) (lv' := [(1, .int (i1 + 1)), (0, .ref (cx.2.2 + a0))]) (pc := 191) X dX9_takeDraft_191 1 rfl rfl (by decide) rfl ?_
          refine x_goto (tgt := 94) (pc := 194) X dX9_takeDraft_194 (by decide) ?_
          exact XW.sub [1, 0] rfl (ih94 _ _ h)
        · have h := ite_f c31 h
          refine x_aload_n (pc := 177) X dX9_takeDraft_177 (i := 0) rfl 0 rfl ?_
          obtain ⟨q28, e28, h⟩ := nns h
          refine x_getr (ci := 9) (k := 8) (n := 26) (C := RX9) (T := TX9) (pc := 178) X dX9_takeDraft_178 hk0 rfl (by decide) w_897 rfl e28 ?_
          refine x_bipush (v := 8) (pc := 181) X dX9_takeDraft_181 (by decide) ?_
          refine x_iload_n (pc := 183) X dX9_takeDraft_183 (i := 1) rfl 1 rfl ?_
          refine x_iadd (pc := 184) X dX9_takeDraft_184 ?_
          obtain ⟨g29, h⟩ := grd h
          refine x_iald (pc := 185) X dX9_takeDraft_185 g29 ?_
          refine x_goto (tgt := 190) (pc := 186) X dX9_takeDraft_186 (by decide) ?_
          obtain ⟨g30, h⟩ := grd h
          obtain ⟨D30, w30, h⟩ := pass h
          refine x_iast (D' := D30) (pc := 190) X dX9_takeDraft_190 g30 w30 ?_
          refine x_iinc (v := i1 + 1) (lv' := [(1, .int (i1 + 1)), (0, .ref (cx.2.2 + a0))]) (pc := 191) X dX9_takeDraft_191 1 rfl rfl (by decide) rfl ?_
          refine x_goto (tgt := 94) (pc := 194) X dX9_takeDraft_194 (by decide) ?_
          exact XW.sub [1, 0] rfl (ih94 _ _ h)
      refine x_iload_n (pc := 94) X dX9_takeDraft_94 (i := 1) rfl 1 rfl ?_
      refine x_bipush (v := 8) (pc := 95) X dX9_takeDraft_95 (by decide) ?_
      refine x_icmp_ge (tgt := 197) (pc := 97) X dX9_takeDraft_97 (by decide) (fun c34 => ?_) (fun c34 => ?_)
      · have h := ite_t c34 h
        refine x_aload_n (pc := 197) X dX9_takeDraft_197 (i := 0) rfl 0 rfl ?_
        refine x_iconst (v := 0) (pc := 198) X dX9_takeDraft_198 (by decide) ?_
        obtain ⟨D10, w10, h⟩ := pass h
        refine x_puti (ci := 9) (k := 13) (n := 26) (C := RX9) (T := TX9) (D' := D10) (pc := 199) X dX9_takeDraft_199 hk0 rfl (by decide) w_902 rfl (by decide +kernel) rfl w10 ?_
        refine x_aload_n (pc := 202) X dX9_takeDraft_202 (i := 0) rfl 0 rfl ?_
        refine x_iconst (v := 0) (pc := 203) X dX9_takeDraft_203 (by decide) ?_
        obtain ⟨D11, w11, h⟩ := pass h
        refine x_puti (ci := 9) (k := 15) (n := 26) (C := RX9) (T := TX9) (D' := D11) (pc := 204) X dX9_takeDraft_204 hk0 rfl (by decide) w_904 rfl (by decide +kernel) rfl w11 ?_
        refine x_aload_n (pc := 207) X dX9_takeDraft_207 (i := 0) rfl 0 rfl ?_
        refine x_iconst (v := 0) (pc := 208) X dX9_takeDraft_208 (by decide) ?_
        obtain ⟨D12, w12, h⟩ := pass h
        refine x_puti (ci := 9) (k := 22) (n := 26) (C := RX9) (T := TX9) (D' := D12) (pc := 209) X dX9_takeDraft_209 hk0 rfl (by decide) w_911 rfl (by decide +kernel) rfl w12 ?_
        refine x_aload_n (pc := 212) X dX9_takeDraft_212 (i := 0) rfl 0 rfl ?_
        refine x_iconst (v := 0) (pc := 213) X dX9_takeDraft_213 (by decide) ?_
        obtain ⟨D13, w13, h⟩ := pass h
        refine x_puti (ci := 9) (k := 24) (n := 26) (C := RX9) (T := TX9) (D' := D13) (pc := 214) X dX9_takeDraft_214 hk0 rfl (by decide) w_913 rfl (by decide +kernel) rfl w13 ?_
        obtain rfl := Option.some.inj h
        exact x_vret (pc := 217) X dX9_takeDraft_217
      · have h := ite_f c34 h
        refine x_aload_n (pc := 100) X dX9_takeDraft_100 (i := 0) rfl 0 rfl ?_
        obtain ⟨q14, e14, h⟩ := nns h
        refine x_getr (ci := 9) (k := 6) (n := 26) (C := RX9) (T := TX9) (pc := 101) X dX9_takeDraft_101 hk0 rfl (by decide) w_895 rfl e14 ?_
        refine x_iload_n (pc := 104) X dX9_takeDraft_104 (i := 1) rfl 1 rfl ?_
        refine x_aload_n (pc := 105) X dX9_takeDraft_105 (i := 0) rfl 0 rfl ?_
        refine x_getr (ci := 9) (k := 6) (n := 26) (C := RX9) (T := TX9) (pc := 106) X dX9_takeDraft_106 hk0 rfl (by decide) w_895 rfl e14 ?_
        refine x_bipush (v := 8) (pc := 109) X dX9_takeDraft_109 (by decide) ?_
        refine x_iload_n (pc := 111) X dX9_takeDraft_111 (i := 1) rfl 1 rfl ?_
        refine x_iadd (pc := 112) X dX9_takeDraft_112 ?_
        obtain ⟨g15, h⟩ := grd h
        refine x_iald (pc := 113) X dX9_takeDraft_113 g15 ?_
        obtain ⟨g16, h⟩ := grd h
        obtain ⟨D16, w16, h⟩ := pass h
        refine x_iast (D' := D16) (pc := 114) X dX9_takeDraft_114 g16 w16 ?_
        refine x_aload_n (pc := 115) X dX9_takeDraft_115 (i := 0) rfl 0 rfl ?_
        obtain ⟨q17, e17, h⟩ := nns h
        refine x_getr (ci := 9) (k := 7) (n := 26) (C := RX9) (T := TX9) (pc := 116) X dX9_takeDraft_116 hk0 rfl (by decide) w_896 rfl e17 ?_
        refine x_iload_n (pc := 119) X dX9_takeDraft_119 (i := 1) rfl 1 rfl ?_
        refine x_aload_n (pc := 120) X dX9_takeDraft_120 (i := 0) rfl 0 rfl ?_
        refine x_getr (ci := 9) (k := 7) (n := 26) (C := RX9) (T := TX9) (pc := 121) X dX9_takeDraft_121 hk0 rfl (by decide) w_896 rfl e17 ?_
        refine x_bipush (v := 8) (pc := 124) X dX9_takeDraft_124 (by decide) ?_
        refine x_iload_n (pc := 126) X dX9_takeDraft_126 (i := 1) rfl 1 rfl ?_
        refine x_iadd (pc := 127) X dX9_takeDraft_127 ?_
        obtain ⟨g18, h⟩ := grd h
        refine x_iald (pc := 128) X dX9_takeDraft_128 g18 ?_
        obtain ⟨g19, h⟩ := grd h
        obtain ⟨D19, w19, h⟩ := pass h
        refine x_iast (D' := D19) (pc := 129) X dX9_takeDraft_129 g19 w19 ?_
        refine x_aload_n (pc := 130) X dX9_takeDraft_130 (i := 0) rfl 0 rfl ?_
        obtain ⟨q20, e20, h⟩ := nns h
        refine x_getr (ci := 9) (k := 11) (n := 26) (C := RX9) (T := TX9) (pc := 131) X dX9_takeDraft_131 hk0 rfl (by decide) w_900 rfl e20 ?_
        refine x_iconst (v := 2) (pc := 134) X dX9_takeDraft_134 (by decide) ?_
        refine x_iload_n (pc := 135) X dX9_takeDraft_135 (i := 1) rfl 1 rfl ?_
        refine x_iadd (pc := 136) X dX9_takeDraft_136 ?_
        refine x_iload_n (pc := 137) X dX9_takeDraft_137 (i := 1) rfl 1 rfl ?_
        refine x_aload_n (pc := 138) X dX9_takeDraft_138 (i := 0) rfl 0 rfl ?_
        obtain ⟨q21, e21, h⟩ := nns h
        refine x_getr (ci := 9) (k := 3) (n := 26) (C := RX9) (T := TX9) (pc := 139) X dX9_takeDraft_139 hk0 rfl (by decide) w_892 rfl e21 ?_
        refine x_iconst (v := 0) (pc := 142) X dX9_takeDraft_142 (by decide) ?_
        obtain ⟨g22, h⟩ := grd h
        refine x_iald (pc := 143) X dX9_takeDraft_143 g22 ?_
        refine x_icmp_ge (tgt := 156) (pc := 144) X dX9_takeDraft_144 (by decide) (fun c33 => ?_) (fun c33 => ?_)
        · have h := ite_t c33 h
          refine x_bipush (v := 7) (pc := 156) X dX9_takeDraft_156 (by decide) ?_
          exact XW.sub [0, 1] rfl (hJ158 _ _ _ _ _ h)
        · have h := ite_f c33 h
          refine x_aload_n (pc := 147) X dX9_takeDraft_147 (i := 0) rfl 0 rfl ?_
          refine x_getr (ci := 9) (k := 6) (n := 26) (C := RX9) (T := TX9) (pc := 148) X dX9_takeDraft_148 hk0 rfl (by decide) w_895 rfl e14 ?_
          refine x_iload_n (pc := 151) X dX9_takeDraft_151 (i := 1) rfl 1 rfl ?_
          obtain ⟨g32, h⟩ := grd h
          refine x_iald (pc := 152) X dX9_takeDraft_152 g32 ?_
          refine x_goto (tgt := 158) (pc := 153) X dX9_takeDraft_153 (by decide) ?_
          exact XW.sub [0, 1] rfl (hJ158 _ _ _ _ _ h)
  have hL53 : ∀ (n : Nat) (D : Dt) (i1 : Int32), wk2 n (f_M_takeDraft_53 N nx P a0) D i1 = some z → XW p l e (rmk 0) s m args below meth c (MQ below (Qx cx none z P nx) args s 0 0 (AA cx)) cx 2 D P nx 0 0 53 [(0, .ref (cx.2.2 + a0)), (1, .int i1)] [] := by
    intro n
    induction n with
    | zero => intro D i1 h; exact (nonz h).elim
    | succ n ih53 =>
      intro D i1 h
      have h : f_M_takeDraft_53 N nx P a0 (wk2 n (f_M_takeDraft_53 N nx P a0)) D i1 = some z := h
      generalize wk2 n (f_M_takeDraft_53 N nx P a0) = rec53 at ih53 h
      unfold f_M_takeDraft_53 at h
      refine x_iload_n (pc := 53) X dX9_takeDraft_53 (i := 1) rfl 1 rfl ?_
      refine x_iconst (v := 5) (pc := 54) X dX9_takeDraft_54 (by decide) ?_
      refine x_icmp_ge (tgt := 78) (pc := 55) X dX9_takeDraft_55 (by decide) (fun c38 => ?_) (fun c38 => ?_)
      · have h := ite_t c38 h
        refine x_aload_n (pc := 78) X dX9_takeDraft_78 (i := 0) rfl 0 rfl ?_
        obtain ⟨q7, e7, h⟩ := nns h
        refine x_getr (ci := 9) (k := 11) (n := 26) (C := RX9) (T := TX9) (pc := 79) X dX9_takeDraft_79 hk0 rfl (by decide) w_900 rfl e7 ?_
        refine x_iconst (v := 0) (pc := 82) X dX9_takeDraft_82 (by decide) ?_
        refine x_iconst (v := 0) (pc := 83) X dX9_takeDraft_83 (by decide) ?_
        obtain ⟨g8, h⟩ := grd h
        obtain ⟨D8, w8, h⟩ := pass h
        refine x_iast (D' := D8) (pc := 84) X dX9_takeDraft_84 g8 w8 ?_
        refine x_aload_n (pc := 85) X dX9_takeDraft_85 (i := 0) rfl 0 rfl ?_
        refine x_getr (ci := 9) (k := 11) (n := 26) (C := RX9) (T := TX9) (pc := 86) X dX9_takeDraft_86 hk0 rfl (by decide) w_900 rfl e7 ?_
        refine x_iconst (v := 1) (pc := 89) X dX9_takeDraft_89 (by decide) ?_
        refine x_iconst (v := 0) (pc := 90) X dX9_takeDraft_90 (by decide) ?_
        obtain ⟨g9, h⟩ := grd h
        obtain ⟨D9, w9, h⟩ := pass h
        refine x_iast (D' := D9) (pc := 91) X dX9_takeDraft_91 g9 w9 ?_
        refine x_iconst (v := 0) (pc := 92) X dX9_takeDraft_92 (by decide) ?_
        refine x_istore_n (lv' := [(1, .int 0), (0, .ref (cx.2.2 + a0))]) (pc := 93) X dX9_takeDraft_93 (i := 1) rfl (by decide) rfl ?_
        exact XW.sub [1, 0] rfl (hL94 _ _ _ h)
      · have h := ite_f c38 h
        refine x_aload_n (pc := 58) X dX9_takeDraft_58 (i := 0) rfl 0 rfl ?_
        obtain ⟨q35, e35, h⟩ := nns h
        refine x_getr (ci := 9) (k := 5) (n := 26) (C := RX9) (T := TX9) (pc := 59) X dX9_takeDraft_59 hk0 rfl (by decide) w_894 rfl e35 ?_
        refine x_iload_n (pc := 62) X dX9_takeDraft_62 (i := 1) rfl 1 rfl ?_
        refine x_aload_n (pc := 63) X dX9_takeDraft_63 (i := 0) rfl 0 rfl ?_
        refine x_getr (ci := 9) (k := 5) (n := 26) (C := RX9) (T := TX9) (pc := 64) X dX9_takeDraft_64 hk0 rfl (by decide) w_894 rfl e35 ?_
        refine x_iconst (v := 5) (pc := 67) X dX9_takeDraft_67 (by decide) ?_
        refine x_iload_n (pc := 68) X dX9_takeDraft_68 (i := 1) rfl 1 rfl ?_
        refine x_iadd (pc := 69) X dX9_takeDraft_69 ?_
        obtain ⟨g36, h⟩ := grd h
        refine x_iald (pc := 70) X dX9_takeDraft_70 g36 ?_
        obtain ⟨g37, h⟩ := grd h
        obtain ⟨D37, w37, h⟩ := pass h
        refine x_iast (D' := D37) (pc := 71) X dX9_takeDraft_71 g37 w37 ?_
        refine x_iinc (v := i1 + 1) (lv' := [(1, .int (i1 + 1)), (0, .ref (cx.2.2 + a0))]) (pc := 72) X dX9_takeDraft_72 1 rfl rfl (by decide) rfl ?_
        refine x_goto (tgt := 53) (pc := 75) X dX9_takeDraft_75 (by decide) ?_
        exact XW.sub [1, 0] rfl (ih53 _ _ h)
  have hL26 : ∀ (n : Nat) (D : Dt) (i1 : Int32), wk2 n (f_M_takeDraft_26 N nx P a0) D i1 = some z → XW p l e (rmk 0) s m args below meth c (MQ below (Qx cx none z P nx) args s 0 0 (AA cx)) cx 2 D P nx 0 0 26 [(0, .ref (cx.2.2 + a0)), (1, .int i1)] [] := by
    intro n
    induction n with
    | zero => intro D i1 h; exact (nonz h).elim
    | succ n ih26 =>
      intro D i1 h
      have h : f_M_takeDraft_26 N nx P a0 (wk2 n (f_M_takeDraft_26 N nx P a0)) D i1 = some z := h
      generalize wk2 n (f_M_takeDraft_26 N nx P a0) = rec26 at ih26 h
      unfold f_M_takeDraft_26 at h
      refine x_iload_n (pc := 26) X dX9_takeDraft_26 (i := 1) rfl 1 rfl ?_
      refine x_iconst (v := 3) (pc := 27) X dX9_takeDraft_27 (by decide) ?_
      refine x_icmp_ge (tgt := 51) (pc := 28) X dX9_takeDraft_28 (by decide) (fun c42 => ?_) (fun c42 => ?_)
      · have h := ite_t c42 h
        refine x_iconst (v := 0) (pc := 51) X dX9_takeDraft_51 (by decide) ?_
        refine x_istore_n (lv' := [(1, .int 0), (0, .ref (cx.2.2 + a0))]) (pc := 52) X dX9_takeDraft_52 (i := 1) rfl (by decide) rfl ?_
        exact XW.sub [1, 0] rfl (hL53 _ _ _ h)
      · have h := ite_f c42 h
        refine x_aload_n (pc := 31) X dX9_takeDraft_31 (i := 0) rfl 0 rfl ?_
        obtain ⟨q39, e39, h⟩ := nns h
        refine x_getr (ci := 9) (k := 4) (n := 26) (C := RX9) (T := TX9) (pc := 32) X dX9_takeDraft_32 hk0 rfl (by decide) w_893 rfl e39 ?_
        refine x_iload_n (pc := 35) X dX9_takeDraft_35 (i := 1) rfl 1 rfl ?_
        refine x_aload_n (pc := 36) X dX9_takeDraft_36 (i := 0) rfl 0 rfl ?_
        refine x_getr (ci := 9) (k := 4) (n := 26) (C := RX9) (T := TX9) (pc := 37) X dX9_takeDraft_37 hk0 rfl (by decide) w_893 rfl e39 ?_
        refine x_iconst (v := 3) (pc := 40) X dX9_takeDraft_40 (by decide) ?_
        refine x_iload_n (pc := 41) X dX9_takeDraft_41 (i := 1) rfl 1 rfl ?_
        refine x_iadd (pc := 42) X dX9_takeDraft_42 ?_
        obtain ⟨g40, h⟩ := grd h
        refine x_iald (pc := 43) X dX9_takeDraft_43 g40 ?_
        obtain ⟨g41, h⟩ := grd h
        obtain ⟨D41, w41, h⟩ := pass h
        refine x_iast (D' := D41) (pc := 44) X dX9_takeDraft_44 g41 w41 ?_
        refine x_iinc (v := i1 + 1) (lv' := [(1, .int (i1 + 1)), (0, .ref (cx.2.2 + a0))]) (pc := 45) X dX9_takeDraft_45 1 rfl rfl (by decide) rfl ?_
        refine x_goto (tgt := 26) (pc := 48) X dX9_takeDraft_48 (by decide) ?_
        exact XW.sub [1, 0] rfl (ih26 _ _ h)
  refine x_aload_n (pc := 0) X dX9_takeDraft_0 (i := 0) rfl 0 rfl ?_
  obtain ⟨q1, e1, h⟩ := nns h
  refine x_getr (ci := 9) (k := 2) (n := 26) (C := RX9) (T := TX9) (pc := 1) X dX9_takeDraft_1 hk0 rfl (by decide) w_891 rfl e1 ?_
  refine x_iconst (v := 0) (pc := 4) X dX9_takeDraft_4 (by decide) ?_
  refine x_aload_n (pc := 5) X dX9_takeDraft_5 (i := 0) rfl 0 rfl ?_
  refine x_getr (ci := 9) (k := 2) (n := 26) (C := RX9) (T := TX9) (pc := 6) X dX9_takeDraft_6 hk0 rfl (by decide) w_891 rfl e1 ?_
  refine x_iconst (v := 1) (pc := 9) X dX9_takeDraft_9 (by decide) ?_
  obtain ⟨g2, h⟩ := grd h
  refine x_iald (pc := 10) X dX9_takeDraft_10 g2 ?_
  obtain ⟨g3, h⟩ := grd h
  obtain ⟨D3, w3, h⟩ := pass h
  refine x_iast (D' := D3) (pc := 11) X dX9_takeDraft_11 g3 w3 ?_
  refine x_aload_n (pc := 12) X dX9_takeDraft_12 (i := 0) rfl 0 rfl ?_
  obtain ⟨q4, e4, h⟩ := nns h
  refine x_getr (ci := 9) (k := 3) (n := 26) (C := RX9) (T := TX9) (pc := 13) X dX9_takeDraft_13 hk0 rfl (by decide) w_892 rfl e4 ?_
  refine x_iconst (v := 0) (pc := 16) X dX9_takeDraft_16 (by decide) ?_
  refine x_aload_n (pc := 17) X dX9_takeDraft_17 (i := 0) rfl 0 rfl ?_
  refine x_getr (ci := 9) (k := 3) (n := 26) (C := RX9) (T := TX9) (pc := 18) X dX9_takeDraft_18 hk0 rfl (by decide) w_892 rfl e4 ?_
  refine x_iconst (v := 1) (pc := 21) X dX9_takeDraft_21 (by decide) ?_
  obtain ⟨g5, h⟩ := grd h
  refine x_iald (pc := 22) X dX9_takeDraft_22 g5 ?_
  obtain ⟨g6, h⟩ := grd h
  obtain ⟨D6, w6, h⟩ := pass h
  refine x_iast (D' := D6) (pc := 23) X dX9_takeDraft_23 g6 w6 ?_
  refine x_iconst (v := 0) (pc := 24) X dX9_takeDraft_24 (by decide) ?_
  refine x_istore_n (lv' := [(1, .int 0), (0, .ref (cx.2.2 + a0))]) (pc := 25) X dX9_takeDraft_25 (i := 1) rfl (by decide) rfl ?_
  exact XW.sub [1, 0] rfl (hL26 _ _ _ h)
theorem dX9_lay_0 : decode cX9_lay 0 = .ok (.aload_n 0, 1) := by decide +kernel
theorem dX9_lay_1 : decode cX9_lay 1 = .ok (.invokevirtual 124, 3) := by decide +kernel
theorem dX9_lay_4 : decode cX9_lay 4 = .ok (.bipush (-4), 2) := by decide +kernel
theorem dX9_lay_6 : decode cX9_lay 6 = .ok (.if_icmp .ne 12, 3) := by decide +kernel
theorem dX9_lay_9 : decode cX9_lay 9 = .ok (.aload_n 0, 1) := by decide +kernel
theorem dX9_lay_10 : decode cX9_lay 10 = .ok (.getfield 13, 3) := by decide +kernel
theorem dX9_lay_13 : decode cX9_lay 13 = .ok (.iconst 1, 1) := by decide +kernel
theorem dX9_lay_14 : decode cX9_lay 14 = .ok (.iaload, 1) := by decide +kernel
theorem dX9_lay_15 : decode cX9_lay 15 = .ok (.ifCond .ne 6, 3) := by decide +kernel
theorem dX9_lay_18 : decode cX9_lay 18 = .ok (.bipush (-2), 2) := by decide +kernel
theorem dX9_lay_20 : decode cX9_lay 20 = .ok (.ireturn, 1) := by decide +kernel
theorem dX9_lay_21 : decode cX9_lay 21 = .ok (.aload_n 0, 1) := by decide +kernel
theorem dX9_lay_22 : decode cX9_lay 22 = .ok (.invokevirtual 71, 3) := by decide +kernel
theorem dX9_lay_25 : decode cX9_lay 25 = .ok (.aload_n 0, 1) := by decide +kernel
theorem dX9_lay_26 : decode cX9_lay 26 = .ok (.getfield 13, 3) := by decide +kernel
theorem dX9_lay_29 : decode cX9_lay 29 = .ok (.iconst 0, 1) := by decide +kernel
theorem dX9_lay_30 : decode cX9_lay 30 = .ok (.iaload, 1) := by decide +kernel
theorem dX9_lay_31 : decode cX9_lay 31 = .ok (.ireturn, 1) := by decide +kernel
def f_M_lay (N nx : Nat) (D : Dt) (P : Ft) (a0 : Nat) : Option (Int32 × Dt) :=
  if kd nx a0 = 9 then
  (f_M_read N nx D P a0).bind fun z1 =>
  if z1.1 = (-4) then
    nn (P a0 2) fun q2 =>
    if ab nx q2 3 1 = true then
    if z1.2 q2 (1 : Int32).toNatClampNeg = 0 then
      some ((-2), z1.2)
    else
      (f_M_takeDraft N nx z1.2 P a0).bind fun z4 =>
      if ab nx q2 3 0 = true then
      some (z4 q2 (0 : Int32).toNatClampNeg, z4)
      else none
    else none
  else
    some ((-2), z1.2)
  else none
theorem m_M_lay : MV yX9_lay cX9_lay 1 (some .int) 0 := ⟨mT 1022 (by decide +kernel) rfl, mT 1020 (by decide +kernel) rfl, mT 1021 (by decide +kernel) rfl, mT 68 (by decide +kernel) rfl, by decide +kernel, by decide +kernel, by decide +kernel⟩
set_option maxHeartbeats 4000000 in
set_option maxRecDepth 100000 in
theorem c_M_lay (l : Launch) (cx : Cx) (nx N : Nat) (D : Dt) (P : Ft) (a0 : Nat) (z : Int32 × Dt) (h : f_M_lay N nx D P a0 = some z) : Ct l cx yX9_lay cX9_lay 1 (some .int) 6 [.ref (cx.2.2 + a0)] D P nx (some (.int z.1)) z.2 P := by
  refine x_met0 (by decide) (Nat.le_of_ble_eq_true rfl) ?_
  intro p e s m args below meth c X
  have X : XC p s m args meth c cx cX9_lay 1 (some .int) "HeartPinsModel" "lay" := X
  refine XW.sub (lv' := [(0, .ref (cx.2.2 + a0))]) [0] rfl ?_
  unfold f_M_lay at h
  obtain ⟨hk0, h⟩ := grd h
  refine x_aload_n (pc := 0) X dX9_lay_0 (i := 0) rfl 0 rfl ?_
  obtain ⟨z1, e1, h⟩ := bnds h
  refine x_callV (pc := 1) (As := []) (st := []) (st' := [.int z1.1]) X (c_M_read l cx nx N D P _ z1 e1) dX9_lay_1 w_983 m_M_read rfl hk0 (ci := 9) rfl rfl ⟨by decide, by decide⟩ ⟨Nat.zero_le _, Nat.zero_le _⟩ rfl (Nat.le_of_ble_eq_true rfl) rfl ?_
  refine x_bipush (v := (-4)) (pc := 4) X dX9_lay_4 (by decide) ?_
  refine x_icmp_ne (tgt := 18) (pc := 6) X dX9_lay_6 (by decide) (fun c7 => ?_) (fun c7 => ?_)
  · have h := ite_f c7 h
    refine x_bipush (v := (-2)) (pc := 18) X dX9_lay_18 (by decide) ?_
    obtain rfl := Option.some.inj h
    exact x_iret (pc := 20) X dX9_lay_20
  · have h := ite_t c7 h
    refine x_aload_n (pc := 9) X dX9_lay_9 (i := 0) rfl 0 rfl ?_
    obtain ⟨q2, e2, h⟩ := nns h
    refine x_getr (ci := 9) (k := 2) (n := 26) (C := RX9) (T := TX9) (pc := 10) X dX9_lay_10 hk0 rfl (by decide) w_891 rfl e2 ?_
    refine x_iconst (v := 1) (pc := 13) X dX9_lay_13 (by decide) ?_
    obtain ⟨g3, h⟩ := grd h
    refine x_iald (pc := 14) X dX9_lay_14 g3 ?_
    refine x_if_ne (tgt := 21) (pc := 15) X dX9_lay_15 (by decide) (fun c6 => ?_) (fun c6 => ?_)
    · have h := ite_f c6 h
      refine x_aload_n (pc := 21) X dX9_lay_21 (i := 0) rfl 0 rfl ?_
      obtain ⟨z4, e4, h⟩ := bnds h
      refine x_callV (pc := 22) (As := []) (st := []) (st' := []) X (c_M_takeDraft l cx nx N z1.2 P _ z4 e4) dX9_lay_22 w_885 m_M_takeDraft rfl hk0 (ci := 9) rfl rfl ⟨by decide, by decide⟩ ⟨Nat.zero_le _, Nat.zero_le _⟩ rfl (Nat.le_of_ble_eq_true rfl) rfl ?_
      refine x_aload_n (pc := 25) X dX9_lay_25 (i := 0) rfl 0 rfl ?_
      refine x_getr (ci := 9) (k := 2) (n := 26) (C := RX9) (T := TX9) (pc := 26) X dX9_lay_26 hk0 rfl (by decide) w_891 rfl e2 ?_
      refine x_iconst (v := 0) (pc := 29) X dX9_lay_29 (by decide) ?_
      obtain ⟨g5, h⟩ := grd h
      refine x_iald (pc := 30) X dX9_lay_30 g5 ?_
      obtain rfl := Option.some.inj h
      exact x_iret (pc := 31) X dX9_lay_31
    · have h := ite_t c6 h
      refine x_bipush (v := (-2)) (pc := 18) X dX9_lay_18 (by decide) ?_
      obtain rfl := Option.some.inj h
      exact x_iret (pc := 20) X dX9_lay_20
theorem dX9_take_0 : decode cX9_take 0 = .ok (.iconst 0, 1) := by decide +kernel
theorem dX9_take_1 : decode cX9_take 1 = .ok (.istore_n 1, 1) := by decide +kernel
theorem dX9_take_2 : decode cX9_take 2 = .ok (.iload_n 1, 1) := by decide +kernel
theorem dX9_take_3 : decode cX9_take 3 = .ok (.bipush 18, 2) := by decide +kernel
theorem dX9_take_5 : decode cX9_take 5 = .ok (.if_icmp .ge 21, 3) := by decide +kernel
theorem dX9_take_8 : decode cX9_take 8 = .ok (.aload_n 0, 1) := by decide +kernel
theorem dX9_take_9 : decode cX9_take 9 = .ok (.getfield 44, 3) := by decide +kernel
theorem dX9_take_12 : decode cX9_take 12 = .ok (.iload_n 1, 1) := by decide +kernel
theorem dX9_take_13 : decode cX9_take 13 = .ok (.aload_n 0, 1) := by decide +kernel
theorem dX9_take_14 : decode cX9_take 14 = .ok (.getfield 35, 3) := by decide +kernel
theorem dX9_take_17 : decode cX9_take 17 = .ok (.iload_n 1, 1) := by decide +kernel
theorem dX9_take_18 : decode cX9_take 18 = .ok (.iaload, 1) := by decide +kernel
theorem dX9_take_19 : decode cX9_take 19 = .ok (.iastore, 1) := by decide +kernel
theorem dX9_take_20 : decode cX9_take 20 = .ok (.iinc 1 1, 3) := by decide +kernel
theorem dX9_take_23 : decode cX9_take 23 = .ok (.goto (-21), 3) := by decide +kernel
theorem dX9_take_26 : decode cX9_take 26 = .ok (.return_, 1) := by decide +kernel
def f_M_take_2 (N nx : Nat) (P : Ft) (a0 : Nat) (rec2 : Dt → Int32 → Option Dt) (D : Dt) (i1 : Int32) : Option Dt :=
  if 18 ≤ i1 then
    some D
  else
    nn (P a0 16) fun q1 =>
    nn (P a0 11) fun q2 =>
    if ab nx q2 3 i1 = true then
    if ab nx q1 3 i1 = true then
    pas (upd2 D q1 i1.toNatClampNeg (D q2 i1.toNatClampNeg)) fun D4 =>
    rec2 D4 (i1 + 1)
    else none
    else none
def f_M_take (N nx : Nat) (D : Dt) (P : Ft) (a0 : Nat) : Option Dt :=
  if kd nx a0 = 9 then
  wk2 N (f_M_take_2 N nx P a0) D 0
  else none
theorem m_M_take : MV yX9_take cX9_take 2 none 0 := ⟨mT 1115 (by decide +kernel) rfl, mT 1114 (by decide +kernel) rfl, mT 43 (by decide +kernel) rfl, mT 68 (by decide +kernel) rfl, by decide +kernel, by decide +kernel, by decide +kernel⟩
set_option maxHeartbeats 4000000 in
set_option maxRecDepth 100000 in
theorem c_M_take (l : Launch) (cx : Cx) (nx N : Nat) (D : Dt) (P : Ft) (a0 : Nat) (z : Dt) (h : f_M_take N nx D P a0 = some z) : Ct l cx yX9_take cX9_take 2 none 0 [.ref (cx.2.2 + a0)] D P nx none z P := by
  refine x_met0 (by decide) (Nat.le_of_ble_eq_true rfl) ?_
  intro p e s m args below meth c X
  have X : XC p s m args meth c cx cX9_take 2 none "HeartPinsModel" "take" := X
  refine XW.sub (lv' := [(0, .ref (cx.2.2 + a0))]) [0] rfl ?_
  unfold f_M_take at h
  obtain ⟨hk0, h⟩ := grd h
  have hL2 : ∀ (n : Nat) (D : Dt) (i1 : Int32), wk2 n (f_M_take_2 N nx P a0) D i1 = some z → XW p l e (rmk 0) s m args below meth c (MQ below (Qx cx none z P nx) args s 0 0 (AA cx)) cx 2 D P nx 0 0 2 [(0, .ref (cx.2.2 + a0)), (1, .int i1)] [] := by
    intro n
    induction n with
    | zero => intro D i1 h; exact (nonz h).elim
    | succ n ih2 =>
      intro D i1 h
      have h : f_M_take_2 N nx P a0 (wk2 n (f_M_take_2 N nx P a0)) D i1 = some z := h
      generalize wk2 n (f_M_take_2 N nx P a0) = rec2 at ih2 h
      unfold f_M_take_2 at h
      refine x_iload_n (pc := 2) X dX9_take_2 (i := 1) rfl 1 rfl ?_
      refine x_bipush (v := 18) (pc := 3) X dX9_take_3 (by decide) ?_
      refine x_icmp_ge (tgt := 26) (pc := 5) X dX9_take_5 (by decide) (fun c5 => ?_) (fun c5 => ?_)
      · have h := ite_t c5 h
        obtain rfl := Option.some.inj h
        exact x_vret (pc := 26) X dX9_take_26
      · have h := ite_f c5 h
        refine x_aload_n (pc := 8) X dX9_take_8 (i := 0) rfl 0 rfl ?_
        obtain ⟨q1, e1, h⟩ := nns h
        refine x_getr (ci := 9) (k := 16) (n := 26) (C := RX9) (T := TX9) (pc := 9) X dX9_take_9 hk0 rfl (by decide) w_905 rfl e1 ?_
        refine x_iload_n (pc := 12) X dX9_take_12 (i := 1) rfl 1 rfl ?_
        refine x_aload_n (pc := 13) X dX9_take_13 (i := 0) rfl 0 rfl ?_
        obtain ⟨q2, e2, h⟩ := nns h
        refine x_getr (ci := 9) (k := 11) (n := 26) (C := RX9) (T := TX9) (pc := 14) X dX9_take_14 hk0 rfl (by decide) w_900 rfl e2 ?_
        refine x_iload_n (pc := 17) X dX9_take_17 (i := 1) rfl 1 rfl ?_
        obtain ⟨g3, h⟩ := grd h
        refine x_iald (pc := 18) X dX9_take_18 g3 ?_
        obtain ⟨g4, h⟩ := grd h
        obtain ⟨D4, w4, h⟩ := pass h
        refine x_iast (D' := D4) (pc := 19) X dX9_take_19 g4 w4 ?_
        refine x_iinc (v := i1 + 1) (lv' := [(1, .int (i1 + 1)), (0, .ref (cx.2.2 + a0))]) (pc := 20) X dX9_take_20 1 rfl rfl (by decide) rfl ?_
        refine x_goto (tgt := 2) (pc := 23) X dX9_take_23 (by decide) ?_
        exact XW.sub [1, 0] rfl (ih2 _ _ h)
  refine x_iconst (v := 0) (pc := 0) X dX9_take_0 (by decide) ?_
  refine x_istore_n (lv' := [(1, .int 0), (0, .ref (cx.2.2 + a0))]) (pc := 1) X dX9_take_1 (i := 1) rfl (by decide) rfl ?_
  exact XW.sub [1, 0] rfl (hL2 _ _ _ h)
theorem dX9_isPerson_0 : decode cX9_isPerson 0 = .ok (.iload_n 1, 1) := by decide +kernel
theorem dX9_isPerson_1 : decode cX9_isPerson 1 = .ok (.iconst 0, 1) := by decide +kernel
theorem dX9_isPerson_2 : decode cX9_isPerson 2 = .ok (.aload_n 0, 1) := by decide +kernel
theorem dX9_isPerson_3 : decode cX9_isPerson 3 = .ok (.getfield 13, 3) := by decide +kernel
theorem dX9_isPerson_6 : decode cX9_isPerson 6 = .ok (.iconst 0, 1) := by decide +kernel
theorem dX9_isPerson_7 : decode cX9_isPerson 7 = .ok (.iaload, 1) := by decide +kernel
theorem dX9_isPerson_8 : decode cX9_isPerson 8 = .ok (.iconst 1, 1) := by decide +kernel
theorem dX9_isPerson_9 : decode cX9_isPerson 9 = .ok (.isub, 1) := by decide +kernel
theorem dX9_isPerson_10 : decode cX9_isPerson 10 = .ok (.invokestatic 74, 3) := by decide +kernel
theorem dX9_isPerson_13 : decode cX9_isPerson 13 = .ok (.ireturn, 1) := by decide +kernel
def f_M_isPerson (N nx : Nat) (D : Dt) (P : Ft) (a0 : Nat) (i1 : Int32) : Option Int32 :=
  if kd nx a0 = 9 then
  nn (P a0 2) fun q1 =>
  if ab nx q1 3 0 = true then
  (f_M_in N nx D P i1 0 ((D q1 (0 : Int32).toNatClampNeg) - 1)).bind fun z3 =>
  if z3 = 0 ∨ z3 = 1 then
  some z3
  else none
  else none
  else none
theorem m_M_isPerson : MV yX9_isPerson cX9_isPerson 2 (some .boolean) 1 := ⟨mT 1030 (by decide +kernel) rfl, mT 1029 (by decide +kernel) rfl, mT 32 (by decide +kernel) rfl, mT 68 (by decide +kernel) rfl, by decide +kernel, by decide +kernel, by decide +kernel⟩
set_option maxHeartbeats 4000000 in
set_option maxRecDepth 100000 in
theorem c_M_isPerson (l : Launch) (cx : Cx) (nx N : Nat) (D : Dt) (P : Ft) (a0 : Nat) (i1 : Int32) (z : Int32) (h : f_M_isPerson N nx D P a0 i1 = some z) : Ct l cx yX9_isPerson cX9_isPerson 2 (some .boolean) 1 [.ref (cx.2.2 + a0), .int i1] D P nx (some (.int z)) D P := by
  refine x_met0 (by decide) (Nat.le_of_ble_eq_true rfl) ?_
  intro p e s m args below meth c X
  have X : XC p s m args meth c cx cX9_isPerson 2 (some .boolean) "HeartPinsModel" "isPerson" := X
  refine XW.sub (lv' := [(0, .ref (cx.2.2 + a0)), (1, .int i1)]) [0, 1] rfl ?_
  unfold f_M_isPerson at h
  obtain ⟨hk0, h⟩ := grd h
  refine x_iload_n (pc := 0) X dX9_isPerson_0 (i := 1) rfl 1 rfl ?_
  refine x_iconst (v := 0) (pc := 1) X dX9_isPerson_1 (by decide) ?_
  refine x_aload_n (pc := 2) X dX9_isPerson_2 (i := 0) rfl 0 rfl ?_
  obtain ⟨q1, e1, h⟩ := nns h
  refine x_getr (ci := 9) (k := 2) (n := 26) (C := RX9) (T := TX9) (pc := 3) X dX9_isPerson_3 hk0 rfl (by decide) w_891 rfl e1 ?_
  refine x_iconst (v := 0) (pc := 6) X dX9_isPerson_6 (by decide) ?_
  obtain ⟨g2, h⟩ := grd h
  refine x_iald (pc := 7) X dX9_isPerson_7 g2 ?_
  refine x_iconst (v := 1) (pc := 8) X dX9_isPerson_8 (by decide) ?_
  refine x_isub (pc := 9) X dX9_isPerson_9 ?_
  obtain ⟨z3, e3, h⟩ := bnds h
  refine x_callS (pc := 10) (As := [.int i1, .int 0, .int ((D q1 (0 : Int32).toNatClampNeg) - 1)]) (st := []) (st' := [.int z3]) X (c_M_in l cx nx N D P _ _ _ z3 e3) dX9_isPerson_10 w_972 m_M_in rfl ⟨by decide, by decide⟩ ⟨Nat.zero_le _, Nat.zero_le _⟩ rfl (Nat.le_of_ble_eq_true rfl) rfl ?_
  obtain ⟨b4, h⟩ := grd h
  obtain rfl := Option.some.inj h
  exact x_zret (pc := 13) X dX9_isPerson_13 b4
theorem dX9_isPin_0 : decode cX9_isPin 0 = .ok (.iload_n 1, 1) := by decide +kernel
theorem dX9_isPin_1 : decode cX9_isPin 1 = .ok (.iconst 0, 1) := by decide +kernel
theorem dX9_isPin_2 : decode cX9_isPin 2 = .ok (.aload_n 0, 1) := by decide +kernel
theorem dX9_isPin_3 : decode cX9_isPin 3 = .ok (.getfield 17, 3) := by decide +kernel
theorem dX9_isPin_6 : decode cX9_isPin 6 = .ok (.iconst 0, 1) := by decide +kernel
theorem dX9_isPin_7 : decode cX9_isPin 7 = .ok (.iaload, 1) := by decide +kernel
theorem dX9_isPin_8 : decode cX9_isPin 8 = .ok (.iconst 1, 1) := by decide +kernel
theorem dX9_isPin_9 : decode cX9_isPin 9 = .ok (.isub, 1) := by decide +kernel
theorem dX9_isPin_10 : decode cX9_isPin 10 = .ok (.invokestatic 74, 3) := by decide +kernel
theorem dX9_isPin_13 : decode cX9_isPin 13 = .ok (.ireturn, 1) := by decide +kernel
def f_M_isPin (N nx : Nat) (D : Dt) (P : Ft) (a0 : Nat) (i1 : Int32) : Option Int32 :=
  if kd nx a0 = 9 then
  nn (P a0 3) fun q1 =>
  if ab nx q1 3 0 = true then
  (f_M_in N nx D P i1 0 ((D q1 (0 : Int32).toNatClampNeg) - 1)).bind fun z3 =>
  if z3 = 0 ∨ z3 = 1 then
  some z3
  else none
  else none
  else none
theorem m_M_isPin : MV yX9_isPin cX9_isPin 2 (some .boolean) 1 := ⟨mT 1057 (by decide +kernel) rfl, mT 1056 (by decide +kernel) rfl, mT 37 (by decide +kernel) rfl, mT 68 (by decide +kernel) rfl, by decide +kernel, by decide +kernel, by decide +kernel⟩
set_option maxHeartbeats 4000000 in
set_option maxRecDepth 100000 in
theorem c_M_isPin (l : Launch) (cx : Cx) (nx N : Nat) (D : Dt) (P : Ft) (a0 : Nat) (i1 : Int32) (z : Int32) (h : f_M_isPin N nx D P a0 i1 = some z) : Ct l cx yX9_isPin cX9_isPin 2 (some .boolean) 1 [.ref (cx.2.2 + a0), .int i1] D P nx (some (.int z)) D P := by
  refine x_met0 (by decide) (Nat.le_of_ble_eq_true rfl) ?_
  intro p e s m args below meth c X
  have X : XC p s m args meth c cx cX9_isPin 2 (some .boolean) "HeartPinsModel" "isPin" := X
  refine XW.sub (lv' := [(0, .ref (cx.2.2 + a0)), (1, .int i1)]) [0, 1] rfl ?_
  unfold f_M_isPin at h
  obtain ⟨hk0, h⟩ := grd h
  refine x_iload_n (pc := 0) X dX9_isPin_0 (i := 1) rfl 1 rfl ?_
  refine x_iconst (v := 0) (pc := 1) X dX9_isPin_1 (by decide) ?_
  refine x_aload_n (pc := 2) X dX9_isPin_2 (i := 0) rfl 0 rfl ?_
  obtain ⟨q1, e1, h⟩ := nns h
  refine x_getr (ci := 9) (k := 3) (n := 26) (C := RX9) (T := TX9) (pc := 3) X dX9_isPin_3 hk0 rfl (by decide) w_892 rfl e1 ?_
  refine x_iconst (v := 0) (pc := 6) X dX9_isPin_6 (by decide) ?_
  obtain ⟨g2, h⟩ := grd h
  refine x_iald (pc := 7) X dX9_isPin_7 g2 ?_
  refine x_iconst (v := 1) (pc := 8) X dX9_isPin_8 (by decide) ?_
  refine x_isub (pc := 9) X dX9_isPin_9 ?_
  obtain ⟨z3, e3, h⟩ := bnds h
  refine x_callS (pc := 10) (As := [.int i1, .int 0, .int ((D q1 (0 : Int32).toNatClampNeg) - 1)]) (st := []) (st' := [.int z3]) X (c_M_in l cx nx N D P _ _ _ z3 e3) dX9_isPin_10 w_972 m_M_in rfl ⟨by decide, by decide⟩ ⟨Nat.zero_le _, Nat.zero_le _⟩ rfl (Nat.le_of_ble_eq_true rfl) rfl ?_
  obtain ⟨b4, h⟩ := grd h
  obtain rfl := Option.some.inj h
  exact x_zret (pc := 13) X dX9_isPin_13 b4
theorem dX9_isBorne_0 : decode cX9_isBorne 0 = .ok (.aload_n 0, 1) := by decide +kernel
theorem dX9_isBorne_1 : decode cX9_isBorne 1 = .ok (.iconst 2, 1) := by decide +kernel
theorem dX9_isBorne_2 : decode cX9_isBorne 2 = .ok (.iload_n 1, 1) := by decide +kernel
theorem dX9_isBorne_3 : decode cX9_isBorne 3 = .ok (.iadd, 1) := by decide +kernel
theorem dX9_isBorne_4 : decode cX9_isBorne 4 = .ok (.iaload, 1) := by decide +kernel
theorem dX9_isBorne_5 : decode cX9_isBorne 5 = .ok (.iconst 5, 1) := by decide +kernel
theorem dX9_isBorne_6 : decode cX9_isBorne 6 = .ok (.if_icmp .ge 7, 3) := by decide +kernel
theorem dX9_isBorne_9 : decode cX9_isBorne 9 = .ok (.iconst 1, 1) := by decide +kernel
theorem dX9_isBorne_10 : decode cX9_isBorne 10 = .ok (.goto 4, 3) := by decide +kernel
theorem dX9_isBorne_13 : decode cX9_isBorne 13 = .ok (.iconst 0, 1) := by decide +kernel
theorem dX9_isBorne_14 : decode cX9_isBorne 14 = .ok (.ireturn, 1) := by decide +kernel
def f_M_isBorne (N nx : Nat) (D : Dt) (P : Ft) (a0 : Nat) (i1 : Int32) : Option Int32 :=
  if ab nx a0 3 (2 + i1) = true then
  if 5 ≤ D a0 (2 + i1).toNatClampNeg then
    some 0
  else
    some 1
  else none
theorem m_M_isBorne : MS yX9_isBorne cX9_isBorne 2 (some .boolean) 2 := ⟨mT 1060 (by decide +kernel) rfl, mT 1059 (by decide +kernel) rfl, mT 68 (by decide +kernel) rfl, by decide +kernel, by decide +kernel, by decide +kernel⟩
set_option maxHeartbeats 4000000 in
set_option maxRecDepth 100000 in
theorem c_M_isBorne (l : Launch) (cx : Cx) (nx N : Nat) (D : Dt) (P : Ft) (a0 : Nat) (i1 : Int32) (z : Int32) (h : f_M_isBorne N nx D P a0 i1 = some z) : Ct l cx yX9_isBorne cX9_isBorne 2 (some .boolean) 0 [.ref (cx.2.2 + a0), .int i1] D P nx (some (.int z)) D P := by
  refine x_met0 (by decide) (Nat.le_of_ble_eq_true rfl) ?_
  intro p e s m args below meth c X
  have X : XC p s m args meth c cx cX9_isBorne 2 (some .boolean) "HeartPinsModel" "isBorne" := X
  refine XW.sub (lv' := [(0, .ref (cx.2.2 + a0)), (1, .int i1)]) [0, 1] rfl ?_
  unfold f_M_isBorne at h
  refine x_aload_n (pc := 0) X dX9_isBorne_0 (i := 0) rfl 0 rfl ?_
  refine x_iconst (v := 2) (pc := 1) X dX9_isBorne_1 (by decide) ?_
  refine x_iload_n (pc := 2) X dX9_isBorne_2 (i := 1) rfl 1 rfl ?_
  refine x_iadd (pc := 3) X dX9_isBorne_3 ?_
  obtain ⟨g1, h⟩ := grd h
  refine x_iald (pc := 4) X dX9_isBorne_4 g1 ?_
  refine x_iconst (v := 5) (pc := 5) X dX9_isBorne_5 (by decide) ?_
  refine x_icmp_ge (tgt := 13) (pc := 6) X dX9_isBorne_6 (by decide) (fun c2 => ?_) (fun c2 => ?_)
  · have h := ite_t c2 h
    refine x_iconst (v := 0) (pc := 13) X dX9_isBorne_13 (by decide) ?_
    obtain rfl := Option.some.inj h
    exact x_zret (pc := 14) X dX9_isBorne_14 (Or.inl rfl)
  · have h := ite_f c2 h
    refine x_iconst (v := 1) (pc := 9) X dX9_isBorne_9 (by decide) ?_
    refine x_goto (tgt := 14) (pc := 10) X dX9_isBorne_10 (by decide) ?_
    obtain rfl := Option.some.inj h
    exact x_zret (pc := 14) X dX9_isBorne_14 (Or.inr rfl)
theorem dX9_those_0 : decode cX9_those 0 = .ok (.iconst 0, 1) := by decide +kernel
theorem dX9_those_1 : decode cX9_those 1 = .ok (.istore_n 3, 1) := by decide +kernel
theorem dX9_those_2 : decode cX9_those 2 = .ok (.iconst 0, 1) := by decide +kernel
theorem dX9_those_3 : decode cX9_those 3 = .ok (.istore 4, 2) := by decide +kernel
theorem dX9_those_5 : decode cX9_those 5 = .ok (.iload 4, 2) := by decide +kernel
theorem dX9_those_7 : decode cX9_those 7 = .ok (.aload_n 0, 1) := by decide +kernel
theorem dX9_those_8 : decode cX9_those 8 = .ok (.getfield 17, 3) := by decide +kernel
theorem dX9_those_11 : decode cX9_those 11 = .ok (.iconst 0, 1) := by decide +kernel
theorem dX9_those_12 : decode cX9_those 12 = .ok (.iaload, 1) := by decide +kernel
theorem dX9_those_13 : decode cX9_those 13 = .ok (.if_icmp .ge 30, 3) := by decide +kernel
theorem dX9_those_16 : decode cX9_those 16 = .ok (.iload_n 3, 1) := by decide +kernel
theorem dX9_those_17 : decode cX9_those 17 = .ok (.aload_n 1, 1) := by decide +kernel
theorem dX9_those_18 : decode cX9_those 18 = .ok (.iconst 2, 1) := by decide +kernel
theorem dX9_those_19 : decode cX9_those 19 = .ok (.iload 4, 2) := by decide +kernel
theorem dX9_those_21 : decode cX9_those 21 = .ok (.iadd, 1) := by decide +kernel
theorem dX9_those_22 : decode cX9_those 22 = .ok (.iaload, 1) := by decide +kernel
theorem dX9_those_23 : decode cX9_those 23 = .ok (.iload_n 2, 1) := by decide +kernel
theorem dX9_those_24 : decode cX9_those 24 = .ok (.if_icmp .ne 10, 3) := by decide +kernel
theorem dX9_those_27 : decode cX9_those 27 = .ok (.iconst 1, 1) := by decide +kernel
theorem dX9_those_28 : decode cX9_those 28 = .ok (.iload 4, 2) := by decide +kernel
theorem dX9_those_30 : decode cX9_those 30 = .ok (.ishl, 1) := by decide +kernel
theorem dX9_those_31 : decode cX9_those 31 = .ok (.goto 4, 3) := by decide +kernel
theorem dX9_those_34 : decode cX9_those 34 = .ok (.iconst 0, 1) := by decide +kernel
theorem dX9_those_35 : decode cX9_those 35 = .ok (.ior, 1) := by decide +kernel
theorem dX9_those_36 : decode cX9_those 36 = .ok (.istore_n 3, 1) := by decide +kernel
theorem dX9_those_37 : decode cX9_those 37 = .ok (.iinc 4 1, 3) := by decide +kernel
theorem dX9_those_40 : decode cX9_those 40 = .ok (.goto (-35), 3) := by decide +kernel
theorem dX9_those_43 : decode cX9_those 43 = .ok (.iload_n 3, 1) := by decide +kernel
theorem dX9_those_44 : decode cX9_those 44 = .ok (.ireturn, 1) := by decide +kernel
def f_M_those_5 (N nx : Nat) (D : Dt) (P : Ft) (a0 : Nat) (a1 : Nat) (i2 : Int32) (rec5 : Int32 → Int32 → Option Int32) (i3 : Int32) (i4 : Int32) : Option Int32 :=
  nn (P a0 3) fun q1 =>
  if ab nx q1 3 0 = true then
  if D q1 (0 : Int32).toNatClampNeg ≤ i4 then
    some i3
  else
    if ab nx a1 3 (2 + i4) = true then
    if D a1 (2 + i4).toNatClampNeg = i2 then
      rec5 (i3 ||| (1 <<< (i4 &&& 31))) (i4 + 1)
    else
      rec5 (i3 ||| 0) (i4 + 1)
    else none
  else none
def f_M_those (N nx : Nat) (D : Dt) (P : Ft) (a0 : Nat) (a1 : Nat) (i2 : Int32) : Option Int32 :=
  if kd nx a0 = 9 then
  wk2 N (f_M_those_5 N nx D P a0 a1 i2) 0 0
  else none
theorem m_M_those : MV yX9_those cX9_those 5 (some .int) 2 := ⟨mT 1038 (by decide +kernel) rfl, mT 1037 (by decide +kernel) rfl, mT 34 (by decide +kernel) rfl, mT 68 (by decide +kernel) rfl, by decide +kernel, by decide +kernel, by decide +kernel⟩
set_option maxHeartbeats 4000000 in
set_option maxRecDepth 100000 in
theorem c_M_those (l : Launch) (cx : Cx) (nx N : Nat) (D : Dt) (P : Ft) (a0 : Nat) (a1 : Nat) (i2 : Int32) (z : Int32) (h : f_M_those N nx D P a0 a1 i2 = some z) : Ct l cx yX9_those cX9_those 5 (some .int) 0 [.ref (cx.2.2 + a0), .ref (cx.2.2 + a1), .int i2] D P nx (some (.int z)) D P := by
  refine x_met0 (by decide) (Nat.le_of_ble_eq_true rfl) ?_
  intro p e s m args below meth c X
  have X : XC p s m args meth c cx cX9_those 5 (some .int) "HeartPinsModel" "those" := X
  refine XW.sub (lv' := [(0, .ref (cx.2.2 + a0)), (1, .ref (cx.2.2 + a1)), (2, .int i2)]) [0, 1, 2] rfl ?_
  unfold f_M_those at h
  obtain ⟨hk0, h⟩ := grd h
  have hL5 : ∀ (n : Nat) (i3 : Int32) (i4 : Int32), wk2 n (f_M_those_5 N nx D P a0 a1 i2) i3 i4 = some z → XW p l e (rmk 0) s m args below meth c (MQ below (Qx cx (some (.int z)) D P nx) args s 0 0 (AA cx)) cx 5 D P nx 0 0 5 [(0, .ref (cx.2.2 + a0)), (1, .ref (cx.2.2 + a1)), (2, .int i2), (3, .int i3), (4, .int i4)] [] := by
    intro n
    induction n with
    | zero => intro i3 i4 h; exact (nonz h).elim
    | succ n ih5 =>
      intro i3 i4 h
      have h : f_M_those_5 N nx D P a0 a1 i2 (wk2 n (f_M_those_5 N nx D P a0 a1 i2)) i3 i4 = some z := h
      generalize wk2 n (f_M_those_5 N nx D P a0 a1 i2) = rec5 at ih5 h
      unfold f_M_those_5 at h
      refine x_iload (pc := 5) X dX9_those_5 4 rfl ?_
      refine x_aload_n (pc := 7) X dX9_those_7 (i := 0) rfl 0 rfl ?_
      obtain ⟨q1, e1, h⟩ := nns h
      refine x_getr (ci := 9) (k := 3) (n := 26) (C := RX9) (T := TX9) (pc := 8) X dX9_those_8 hk0 rfl (by decide) w_892 rfl e1 ?_
      refine x_iconst (v := 0) (pc := 11) X dX9_those_11 (by decide) ?_
      obtain ⟨g2, h⟩ := grd h
      refine x_iald (pc := 12) X dX9_those_12 g2 ?_
      refine x_icmp_ge (tgt := 43) (pc := 13) X dX9_those_13 (by decide) (fun c5 => ?_) (fun c5 => ?_)
      · have h := ite_t c5 h
        refine x_iload_n (pc := 43) X dX9_those_43 (i := 3) rfl 3 rfl ?_
        obtain rfl := Option.some.inj h
        exact x_iret (pc := 44) X dX9_those_44
      · have h := ite_f c5 h
        refine x_iload_n (pc := 16) X dX9_those_16 (i := 3) rfl 3 rfl ?_
        refine x_aload_n (pc := 17) X dX9_those_17 (i := 1) rfl 1 rfl ?_
        refine x_iconst (v := 2) (pc := 18) X dX9_those_18 (by decide) ?_
        refine x_iload (pc := 19) X dX9_those_19 4 rfl ?_
        refine x_iadd (pc := 21) X dX9_those_21 ?_
        obtain ⟨g3, h⟩ := grd h
        refine x_iald (pc := 22) X dX9_those_22 g3 ?_
        refine x_iload_n (pc := 23) X dX9_those_23 (i := 2) rfl 2 rfl ?_
        refine x_icmp_ne (tgt := 34) (pc := 24) X dX9_those_24 (by decide) (fun c4 => ?_) (fun c4 => ?_)
        · have h := ite_f c4 h
          refine x_iconst (v := 0) (pc := 34) X dX9_those_34 (by decide) ?_
          refine x_ior (pc := 35) X dX9_those_35 ?_
          refine x_istore_n (lv' := [(3, .int (i3 ||| 0)), (0, .ref (cx.2.2 + a0)), (1, .ref (cx.2.2 + a1)), (2, .int i2), (4, .int i4)]) (pc := 36) X dX9_those_36 (i := 3) rfl (by decide) rfl ?_
          refine x_iinc (v := i4 + 1) (lv' := [(4, .int (i4 + 1)), (3, .int (i3 ||| 0)), (0, .ref (cx.2.2 + a0)), (1, .ref (cx.2.2 + a1)), (2, .int i2)]) (pc := 37) X dX9_those_37 4 rfl rfl (by decide) rfl ?_
          refine x_goto (tgt := 5) (pc := 40) X dX9_those_40 (by decide) ?_
          exact XW.sub [2, 3, 4, 1, 0] rfl (ih5 _ _ h)
        · have h := ite_t c4 h
          refine x_iconst (v := 1) (pc := 27) X dX9_those_27 (by decide) ?_
          refine x_iload (pc := 28) X dX9_those_28 4 rfl ?_
          refine x_ishl (pc := 30) X dX9_those_30 ?_
          refine x_goto (tgt := 35) (pc := 31) X dX9_those_31 (by decide) ?_
          refine x_ior (pc := 35) X dX9_those_35 ?_
          refine x_istore_n (lv' := [(3, .int (i3 ||| (1 <<< (i4 &&& 31)))), (0, .ref (cx.2.2 + a0)), (1, .ref (cx.2.2 + a1)), (2, .int i2), (4, .int i4)]) (pc := 36) X dX9_those_36 (i := 3) rfl (by decide) rfl ?_
          refine x_iinc (v := i4 + 1) (lv' := [(4, .int (i4 + 1)), (3, .int (i3 ||| (1 <<< (i4 &&& 31)))), (0, .ref (cx.2.2 + a0)), (1, .ref (cx.2.2 + a1)), (2, .int i2)]) (pc := 37) X dX9_those_37 4 rfl rfl (by decide) rfl ?_
          refine x_goto (tgt := 5) (pc := 40) X dX9_those_40 (by decide) ?_
          exact XW.sub [2, 3, 4, 1, 0] rfl (ih5 _ _ h)
  refine x_iconst (v := 0) (pc := 0) X dX9_those_0 (by decide) ?_
  refine x_istore_n (lv' := [(3, .int 0), (0, .ref (cx.2.2 + a0)), (1, .ref (cx.2.2 + a1)), (2, .int i2)]) (pc := 1) X dX9_those_1 (i := 3) rfl (by decide) rfl ?_
  refine x_iconst (v := 0) (pc := 2) X dX9_those_2 (by decide) ?_
  refine x_istore (lv' := [(4, .int 0), (3, .int 0), (0, .ref (cx.2.2 + a0)), (1, .ref (cx.2.2 + a1)), (2, .int i2)]) (pc := 3) X dX9_those_3 (by decide) rfl ?_
  exact XW.sub [2, 3, 4, 1, 0] rfl (hL5 _ _ _ h)
theorem dX9_borne_0 : decode cX9_borne 0 = .ok (.iconst 0, 1) := by decide +kernel
theorem dX9_borne_1 : decode cX9_borne 1 = .ok (.istore_n 2, 1) := by decide +kernel
theorem dX9_borne_2 : decode cX9_borne 2 = .ok (.iconst 0, 1) := by decide +kernel
theorem dX9_borne_3 : decode cX9_borne 3 = .ok (.istore_n 3, 1) := by decide +kernel
theorem dX9_borne_4 : decode cX9_borne 4 = .ok (.iload_n 3, 1) := by decide +kernel
theorem dX9_borne_5 : decode cX9_borne 5 = .ok (.aload_n 0, 1) := by decide +kernel
theorem dX9_borne_6 : decode cX9_borne 6 = .ok (.getfield 17, 3) := by decide +kernel
theorem dX9_borne_9 : decode cX9_borne 9 = .ok (.iconst 0, 1) := by decide +kernel
theorem dX9_borne_10 : decode cX9_borne 10 = .ok (.iaload, 1) := by decide +kernel
theorem dX9_borne_11 : decode cX9_borne 11 = .ok (.if_icmp .ge 27, 3) := by decide +kernel
theorem dX9_borne_14 : decode cX9_borne 14 = .ok (.iload_n 2, 1) := by decide +kernel
theorem dX9_borne_15 : decode cX9_borne 15 = .ok (.aload_n 1, 1) := by decide +kernel
theorem dX9_borne_16 : decode cX9_borne 16 = .ok (.iload_n 3, 1) := by decide +kernel
theorem dX9_borne_17 : decode cX9_borne 17 = .ok (.invokestatic 145, 3) := by decide +kernel
theorem dX9_borne_20 : decode cX9_borne 20 = .ok (.ifCond .eq 9, 3) := by decide +kernel
theorem dX9_borne_23 : decode cX9_borne 23 = .ok (.iconst 1, 1) := by decide +kernel
theorem dX9_borne_24 : decode cX9_borne 24 = .ok (.iload_n 3, 1) := by decide +kernel
theorem dX9_borne_25 : decode cX9_borne 25 = .ok (.ishl, 1) := by decide +kernel
theorem dX9_borne_26 : decode cX9_borne 26 = .ok (.goto 4, 3) := by decide +kernel
theorem dX9_borne_29 : decode cX9_borne 29 = .ok (.iconst 0, 1) := by decide +kernel
theorem dX9_borne_30 : decode cX9_borne 30 = .ok (.ior, 1) := by decide +kernel
theorem dX9_borne_31 : decode cX9_borne 31 = .ok (.istore_n 2, 1) := by decide +kernel
theorem dX9_borne_32 : decode cX9_borne 32 = .ok (.iinc 3 1, 3) := by decide +kernel
theorem dX9_borne_35 : decode cX9_borne 35 = .ok (.goto (-31), 3) := by decide +kernel
theorem dX9_borne_38 : decode cX9_borne 38 = .ok (.iload_n 2, 1) := by decide +kernel
theorem dX9_borne_39 : decode cX9_borne 39 = .ok (.ireturn, 1) := by decide +kernel
def f_M_borne_4 (N nx : Nat) (D : Dt) (P : Ft) (a0 : Nat) (a1 : Nat) (rec4 : Int32 → Int32 → Option Int32) (i2 : Int32) (i3 : Int32) : Option Int32 :=
  nn (P a0 3) fun q1 =>
  if ab nx q1 3 0 = true then
  if D q1 (0 : Int32).toNatClampNeg ≤ i3 then
    some i2
  else
    (f_M_isBorne N nx D P a1 i3).bind fun z3 =>
    if z3 = 0 then
      rec4 (i2 ||| 0) (i3 + 1)
    else
      rec4 (i2 ||| (1 <<< (i3 &&& 31))) (i3 + 1)
  else none
def f_M_borne (N nx : Nat) (D : Dt) (P : Ft) (a0 : Nat) (a1 : Nat) : Option Int32 :=
  if kd nx a0 = 9 then
  wk2 N (f_M_borne_4 N nx D P a0 a1) 0 0
  else none
theorem m_M_borne : MV yX9_borne cX9_borne 4 (some .int) 1 := ⟨mT 1135 (by decide +kernel) rfl, mT 1134 (by decide +kernel) rfl, mT 44 (by decide +kernel) rfl, mT 68 (by decide +kernel) rfl, by decide +kernel, by decide +kernel, by decide +kernel⟩
set_option maxHeartbeats 4000000 in
set_option maxRecDepth 100000 in
theorem c_M_borne (l : Launch) (cx : Cx) (nx N : Nat) (D : Dt) (P : Ft) (a0 : Nat) (a1 : Nat) (z : Int32) (h : f_M_borne N nx D P a0 a1 = some z) : Ct l cx yX9_borne cX9_borne 4 (some .int) 1 [.ref (cx.2.2 + a0), .ref (cx.2.2 + a1)] D P nx (some (.int z)) D P := by
  refine x_met0 (by decide) (Nat.le_of_ble_eq_true rfl) ?_
  intro p e s m args below meth c X
  have X : XC p s m args meth c cx cX9_borne 4 (some .int) "HeartPinsModel" "borne" := X
  refine XW.sub (lv' := [(0, .ref (cx.2.2 + a0)), (1, .ref (cx.2.2 + a1))]) [0, 1] rfl ?_
  unfold f_M_borne at h
  obtain ⟨hk0, h⟩ := grd h
  have hL4 : ∀ (n : Nat) (i2 : Int32) (i3 : Int32), wk2 n (f_M_borne_4 N nx D P a0 a1) i2 i3 = some z → XW p l e (rmk 1) s m args below meth c (MQ below (Qx cx (some (.int z)) D P nx) args s 0 0 (AA cx)) cx 4 D P nx 0 0 4 [(0, .ref (cx.2.2 + a0)), (1, .ref (cx.2.2 + a1)), (2, .int i2), (3, .int i3)] [] := by
    intro n
    induction n with
    | zero => intro i2 i3 h; exact (nonz h).elim
    | succ n ih4 =>
      intro i2 i3 h
      have h : f_M_borne_4 N nx D P a0 a1 (wk2 n (f_M_borne_4 N nx D P a0 a1)) i2 i3 = some z := h
      generalize wk2 n (f_M_borne_4 N nx D P a0 a1) = rec4 at ih4 h
      unfold f_M_borne_4 at h
      refine x_iload_n (pc := 4) X dX9_borne_4 (i := 3) rfl 3 rfl ?_
      refine x_aload_n (pc := 5) X dX9_borne_5 (i := 0) rfl 0 rfl ?_
      obtain ⟨q1, e1, h⟩ := nns h
      refine x_getr (ci := 9) (k := 3) (n := 26) (C := RX9) (T := TX9) (pc := 6) X dX9_borne_6 hk0 rfl (by decide) w_892 rfl e1 ?_
      refine x_iconst (v := 0) (pc := 9) X dX9_borne_9 (by decide) ?_
      obtain ⟨g2, h⟩ := grd h
      refine x_iald (pc := 10) X dX9_borne_10 g2 ?_
      refine x_icmp_ge (tgt := 38) (pc := 11) X dX9_borne_11 (by decide) (fun c5 => ?_) (fun c5 => ?_)
      · have h := ite_t c5 h
        refine x_iload_n (pc := 38) X dX9_borne_38 (i := 2) rfl 2 rfl ?_
        obtain rfl := Option.some.inj h
        exact x_iret (pc := 39) X dX9_borne_39
      · have h := ite_f c5 h
        refine x_iload_n (pc := 14) X dX9_borne_14 (i := 2) rfl 2 rfl ?_
        refine x_aload_n (pc := 15) X dX9_borne_15 (i := 1) rfl 1 rfl ?_
        refine x_iload_n (pc := 16) X dX9_borne_16 (i := 3) rfl 3 rfl ?_
        obtain ⟨z3, e3, h⟩ := bnds h
        refine x_callS (pc := 17) (As := [.ref (cx.2.2 + a1), .int i3]) (st := [.int i2]) (st' := [.int z3, .int i2]) X (c_M_isBorne l cx nx N D P _ _ z3 e3) dX9_borne_17 w_1058 m_M_isBorne rfl ⟨by decide, by decide⟩ ⟨Nat.zero_le _, Nat.zero_le _⟩ rfl (Nat.le_of_ble_eq_true rfl) rfl ?_
        refine x_if_eq (tgt := 29) (pc := 20) X dX9_borne_20 (by decide) (fun c4 => ?_) (fun c4 => ?_)
        · have h := ite_t c4 h
          refine x_iconst (v := 0) (pc := 29) X dX9_borne_29 (by decide) ?_
          refine x_ior (pc := 30) X dX9_borne_30 ?_
          refine x_istore_n (lv' := [(2, .int (i2 ||| 0)), (0, .ref (cx.2.2 + a0)), (1, .ref (cx.2.2 + a1)), (3, .int i3)]) (pc := 31) X dX9_borne_31 (i := 2) rfl (by decide) rfl ?_
          refine x_iinc (v := i3 + 1) (lv' := [(3, .int (i3 + 1)), (2, .int (i2 ||| 0)), (0, .ref (cx.2.2 + a0)), (1, .ref (cx.2.2 + a1))]) (pc := 32) X dX9_borne_32 3 rfl rfl (by decide) rfl ?_
          refine x_goto (tgt := 4) (pc := 35) X dX9_borne_35 (by decide) ?_
          exact XW.sub [2, 3, 1, 0] rfl (ih4 _ _ h)
        · have h := ite_f c4 h
          refine x_iconst (v := 1) (pc := 23) X dX9_borne_23 (by decide) ?_
          refine x_iload_n (pc := 24) X dX9_borne_24 (i := 3) rfl 3 rfl ?_
          refine x_ishl (pc := 25) X dX9_borne_25 ?_
          refine x_goto (tgt := 30) (pc := 26) X dX9_borne_26 (by decide) ?_
          refine x_ior (pc := 30) X dX9_borne_30 ?_
          refine x_istore_n (lv' := [(2, .int (i2 ||| (1 <<< (i3 &&& 31)))), (0, .ref (cx.2.2 + a0)), (1, .ref (cx.2.2 + a1)), (3, .int i3)]) (pc := 31) X dX9_borne_31 (i := 2) rfl (by decide) rfl ?_
          refine x_iinc (v := i3 + 1) (lv' := [(3, .int (i3 + 1)), (2, .int (i2 ||| (1 <<< (i3 &&& 31)))), (0, .ref (cx.2.2 + a0)), (1, .ref (cx.2.2 + a1))]) (pc := 32) X dX9_borne_32 3 rfl rfl (by decide) rfl ?_
          refine x_goto (tgt := 4) (pc := 35) X dX9_borne_35 (by decide) ?_
          exact XW.sub [2, 3, 1, 0] rfl (ih4 _ _ h)
  refine x_iconst (v := 0) (pc := 0) X dX9_borne_0 (by decide) ?_
  refine x_istore_n (lv' := [(2, .int 0), (0, .ref (cx.2.2 + a0)), (1, .ref (cx.2.2 + a1))]) (pc := 1) X dX9_borne_1 (i := 2) rfl (by decide) rfl ?_
  refine x_iconst (v := 0) (pc := 2) X dX9_borne_2 (by decide) ?_
  refine x_istore_n (lv' := [(3, .int 0), (2, .int 0), (0, .ref (cx.2.2 + a0)), (1, .ref (cx.2.2 + a1))]) (pc := 3) X dX9_borne_3 (i := 3) rfl (by decide) rfl ?_
  exact XW.sub [2, 3, 1, 0] rfl (hL4 _ _ _ h)
theorem dX9_sizeOf_0 : decode cX9_sizeOf 0 = .ok (.iconst 0, 1) := by decide +kernel
theorem dX9_sizeOf_1 : decode cX9_sizeOf 1 = .ok (.istore_n 3, 1) := by decide +kernel
theorem dX9_sizeOf_2 : decode cX9_sizeOf 2 = .ok (.iconst 0, 1) := by decide +kernel
theorem dX9_sizeOf_3 : decode cX9_sizeOf 3 = .ok (.istore 4, 2) := by decide +kernel
theorem dX9_sizeOf_5 : decode cX9_sizeOf 5 = .ok (.iload 4, 2) := by decide +kernel
theorem dX9_sizeOf_7 : decode cX9_sizeOf 7 = .ok (.aload_n 0, 1) := by decide +kernel
theorem dX9_sizeOf_8 : decode cX9_sizeOf 8 = .ok (.getfield 17, 3) := by decide +kernel
theorem dX9_sizeOf_11 : decode cX9_sizeOf 11 = .ok (.iconst 0, 1) := by decide +kernel
theorem dX9_sizeOf_12 : decode cX9_sizeOf 12 = .ok (.iaload, 1) := by decide +kernel
theorem dX9_sizeOf_13 : decode cX9_sizeOf 13 = .ok (.if_icmp .ge 32, 3) := by decide +kernel
theorem dX9_sizeOf_16 : decode cX9_sizeOf 16 = .ok (.iload_n 3, 1) := by decide +kernel
theorem dX9_sizeOf_17 : decode cX9_sizeOf 17 = .ok (.iload_n 2, 1) := by decide +kernel
theorem dX9_sizeOf_18 : decode cX9_sizeOf 18 = .ok (.iload 4, 2) := by decide +kernel
theorem dX9_sizeOf_20 : decode cX9_sizeOf 20 = .ok (.invokestatic 149, 3) := by decide +kernel
theorem dX9_sizeOf_23 : decode cX9_sizeOf 23 = .ok (.ifCond .eq 13, 3) := by decide +kernel
theorem dX9_sizeOf_26 : decode cX9_sizeOf 26 = .ok (.aload_n 1, 1) := by decide +kernel
theorem dX9_sizeOf_27 : decode cX9_sizeOf 27 = .ok (.bipush 10, 2) := by decide +kernel
theorem dX9_sizeOf_29 : decode cX9_sizeOf 29 = .ok (.iload 4, 2) := by decide +kernel
theorem dX9_sizeOf_31 : decode cX9_sizeOf 31 = .ok (.iadd, 1) := by decide +kernel
theorem dX9_sizeOf_32 : decode cX9_sizeOf 32 = .ok (.iaload, 1) := by decide +kernel
theorem dX9_sizeOf_33 : decode cX9_sizeOf 33 = .ok (.goto 4, 3) := by decide +kernel
theorem dX9_sizeOf_36 : decode cX9_sizeOf 36 = .ok (.iconst 0, 1) := by decide +kernel
theorem dX9_sizeOf_37 : decode cX9_sizeOf 37 = .ok (.iadd, 1) := by decide +kernel
theorem dX9_sizeOf_38 : decode cX9_sizeOf 38 = .ok (.istore_n 3, 1) := by decide +kernel
theorem dX9_sizeOf_39 : decode cX9_sizeOf 39 = .ok (.iinc 4 1, 3) := by decide +kernel
theorem dX9_sizeOf_42 : decode cX9_sizeOf 42 = .ok (.goto (-37), 3) := by decide +kernel
theorem dX9_sizeOf_45 : decode cX9_sizeOf 45 = .ok (.iload_n 3, 1) := by decide +kernel
theorem dX9_sizeOf_46 : decode cX9_sizeOf 46 = .ok (.ireturn, 1) := by decide +kernel
def f_M_sizeOf_5 (N nx : Nat) (D : Dt) (P : Ft) (a0 : Nat) (a1 : Nat) (i2 : Int32) (rec5 : Int32 → Int32 → Option Int32) (i3 : Int32) (i4 : Int32) : Option Int32 :=
  nn (P a0 3) fun q1 =>
  if ab nx q1 3 0 = true then
  if D q1 (0 : Int32).toNatClampNeg ≤ i4 then
    some i3
  else
    (f_M_has N nx D P i2 i4).bind fun z3 =>
    if z3 = 0 then
      rec5 (i3 + 0) (i4 + 1)
    else
      if ab nx a1 3 (10 + i4) = true then
      rec5 (i3 + (D a1 (10 + i4).toNatClampNeg)) (i4 + 1)
      else none
  else none
def f_M_sizeOf (N nx : Nat) (D : Dt) (P : Ft) (a0 : Nat) (a1 : Nat) (i2 : Int32) : Option Int32 :=
  if kd nx a0 = 9 then
  wk2 N (f_M_sizeOf_5 N nx D P a0 a1 i2) 0 0
  else none
theorem m_M_sizeOf : MV yX9_sizeOf cX9_sizeOf 5 (some .int) 2 := ⟨mT 1042 (by decide +kernel) rfl, mT 1041 (by decide +kernel) rfl, mT 35 (by decide +kernel) rfl, mT 68 (by decide +kernel) rfl, by decide +kernel, by decide +kernel, by decide +kernel⟩
set_option maxHeartbeats 4000000 in
set_option maxRecDepth 100000 in
theorem c_M_sizeOf (l : Launch) (cx : Cx) (nx N : Nat) (D : Dt) (P : Ft) (a0 : Nat) (a1 : Nat) (i2 : Int32) (z : Int32) (h : f_M_sizeOf N nx D P a0 a1 i2 = some z) : Ct l cx yX9_sizeOf cX9_sizeOf 5 (some .int) 1 [.ref (cx.2.2 + a0), .ref (cx.2.2 + a1), .int i2] D P nx (some (.int z)) D P := by
  refine x_met0 (by decide) (Nat.le_of_ble_eq_true rfl) ?_
  intro p e s m args below meth c X
  have X : XC p s m args meth c cx cX9_sizeOf 5 (some .int) "HeartPinsModel" "sizeOf" := X
  refine XW.sub (lv' := [(0, .ref (cx.2.2 + a0)), (1, .ref (cx.2.2 + a1)), (2, .int i2)]) [0, 1, 2] rfl ?_
  unfold f_M_sizeOf at h
  obtain ⟨hk0, h⟩ := grd h
  have hL5 : ∀ (n : Nat) (i3 : Int32) (i4 : Int32), wk2 n (f_M_sizeOf_5 N nx D P a0 a1 i2) i3 i4 = some z → XW p l e (rmk 1) s m args below meth c (MQ below (Qx cx (some (.int z)) D P nx) args s 0 0 (AA cx)) cx 5 D P nx 0 0 5 [(0, .ref (cx.2.2 + a0)), (1, .ref (cx.2.2 + a1)), (2, .int i2), (3, .int i3), (4, .int i4)] [] := by
    intro n
    induction n with
    | zero => intro i3 i4 h; exact (nonz h).elim
    | succ n ih5 =>
      intro i3 i4 h
      have h : f_M_sizeOf_5 N nx D P a0 a1 i2 (wk2 n (f_M_sizeOf_5 N nx D P a0 a1 i2)) i3 i4 = some z := h
      generalize wk2 n (f_M_sizeOf_5 N nx D P a0 a1 i2) = rec5 at ih5 h
      unfold f_M_sizeOf_5 at h
      refine x_iload (pc := 5) X dX9_sizeOf_5 4 rfl ?_
      refine x_aload_n (pc := 7) X dX9_sizeOf_7 (i := 0) rfl 0 rfl ?_
      obtain ⟨q1, e1, h⟩ := nns h
      refine x_getr (ci := 9) (k := 3) (n := 26) (C := RX9) (T := TX9) (pc := 8) X dX9_sizeOf_8 hk0 rfl (by decide) w_892 rfl e1 ?_
      refine x_iconst (v := 0) (pc := 11) X dX9_sizeOf_11 (by decide) ?_
      obtain ⟨g2, h⟩ := grd h
      refine x_iald (pc := 12) X dX9_sizeOf_12 g2 ?_
      refine x_icmp_ge (tgt := 45) (pc := 13) X dX9_sizeOf_13 (by decide) (fun c6 => ?_) (fun c6 => ?_)
      · have h := ite_t c6 h
        refine x_iload_n (pc := 45) X dX9_sizeOf_45 (i := 3) rfl 3 rfl ?_
        obtain rfl := Option.some.inj h
        exact x_iret (pc := 46) X dX9_sizeOf_46
      · have h := ite_f c6 h
        refine x_iload_n (pc := 16) X dX9_sizeOf_16 (i := 3) rfl 3 rfl ?_
        refine x_iload_n (pc := 17) X dX9_sizeOf_17 (i := 2) rfl 2 rfl ?_
        refine x_iload (pc := 18) X dX9_sizeOf_18 4 rfl ?_
        obtain ⟨z3, e3, h⟩ := bnds h
        refine x_callS (pc := 20) (As := [.int i2, .int i4]) (st := [.int i3]) (st' := [.int z3, .int i3]) X (c_M_has l cx nx N D P _ _ z3 e3) dX9_sizeOf_20 w_1043 m_M_has rfl ⟨by decide, by decide⟩ ⟨Nat.zero_le _, Nat.zero_le _⟩ rfl (Nat.le_of_ble_eq_true rfl) rfl ?_
        refine x_if_eq (tgt := 36) (pc := 23) X dX9_sizeOf_23 (by decide) (fun c5 => ?_) (fun c5 => ?_)
        · have h := ite_t c5 h
          refine x_iconst (v := 0) (pc := 36) X dX9_sizeOf_36 (by decide) ?_
          refine x_iadd (pc := 37) X dX9_sizeOf_37 ?_
          refine x_istore_n (lv' := [(3, .int (i3 + 0)), (0, .ref (cx.2.2 + a0)), (1, .ref (cx.2.2 + a1)), (2, .int i2), (4, .int i4)]) (pc := 38) X dX9_sizeOf_38 (i := 3) rfl (by decide) rfl ?_
          refine x_iinc (v := i4 + 1) (lv' := [(4, .int (i4 + 1)), (3, .int (i3 + 0)), (0, .ref (cx.2.2 + a0)), (1, .ref (cx.2.2 + a1)), (2, .int i2)]) (pc := 39) X dX9_sizeOf_39 4 rfl rfl (by decide) rfl ?_
          refine x_goto (tgt := 5) (pc := 42) X dX9_sizeOf_42 (by decide) ?_
          exact XW.sub [2, 3, 4, 1, 0] rfl (ih5 _ _ h)
        · have h := ite_f c5 h
          refine x_aload_n (pc := 26) X dX9_sizeOf_26 (i := 1) rfl 1 rfl ?_
          refine x_bipush (v := 10) (pc := 27) X dX9_sizeOf_27 (by decide) ?_
          refine x_iload (pc := 29) X dX9_sizeOf_29 4 rfl ?_
          refine x_iadd (pc := 31) X dX9_sizeOf_31 ?_
          obtain ⟨g4, h⟩ := grd h
          refine x_iald (pc := 32) X dX9_sizeOf_32 g4 ?_
          refine x_goto (tgt := 37) (pc := 33) X dX9_sizeOf_33 (by decide) ?_
          refine x_iadd (pc := 37) X dX9_sizeOf_37 ?_
          refine x_istore_n (lv' := [(3, .int (i3 + (D a1 (10 + i4).toNatClampNeg))), (0, .ref (cx.2.2 + a0)), (1, .ref (cx.2.2 + a1)), (2, .int i2), (4, .int i4)]) (pc := 38) X dX9_sizeOf_38 (i := 3) rfl (by decide) rfl ?_
          refine x_iinc (v := i4 + 1) (lv' := [(4, .int (i4 + 1)), (3, .int (i3 + (D a1 (10 + i4).toNatClampNeg))), (0, .ref (cx.2.2 + a0)), (1, .ref (cx.2.2 + a1)), (2, .int i2)]) (pc := 39) X dX9_sizeOf_39 4 rfl rfl (by decide) rfl ?_
          refine x_goto (tgt := 5) (pc := 42) X dX9_sizeOf_42 (by decide) ?_
          exact XW.sub [2, 3, 4, 1, 0] rfl (ih5 _ _ h)
  refine x_iconst (v := 0) (pc := 0) X dX9_sizeOf_0 (by decide) ?_
  refine x_istore_n (lv' := [(3, .int 0), (0, .ref (cx.2.2 + a0)), (1, .ref (cx.2.2 + a1)), (2, .int i2)]) (pc := 1) X dX9_sizeOf_1 (i := 3) rfl (by decide) rfl ?_
  refine x_iconst (v := 0) (pc := 2) X dX9_sizeOf_2 (by decide) ?_
  refine x_istore (lv' := [(4, .int 0), (3, .int 0), (0, .ref (cx.2.2 + a0)), (1, .ref (cx.2.2 + a1)), (2, .int i2)]) (pc := 3) X dX9_sizeOf_3 (by decide) rfl ?_
  exact XW.sub [2, 3, 4, 1, 0] rfl (hL5 _ _ _ h)
theorem dX9_load_0 : decode cX9_load 0 = .ok (.aload_n 0, 1) := by decide +kernel
theorem dX9_load_1 : decode cX9_load 1 = .ok (.aload_n 1, 1) := by decide +kernel
theorem dX9_load_2 : decode cX9_load 2 = .ok (.aload_n 0, 1) := by decide +kernel
theorem dX9_load_3 : decode cX9_load 3 = .ok (.aload_n 1, 1) := by decide +kernel
theorem dX9_load_4 : decode cX9_load 4 = .ok (.iload_n 2, 1) := by decide +kernel
theorem dX9_load_5 : decode cX9_load 5 = .ok (.invokevirtual 153, 3) := by decide +kernel
theorem dX9_load_8 : decode cX9_load 8 = .ok (.invokevirtual 157, 3) := by decide +kernel
theorem dX9_load_11 : decode cX9_load 11 = .ok (.ireturn, 1) := by decide +kernel
def f_M_load (N nx : Nat) (D : Dt) (P : Ft) (a0 : Nat) (a1 : Nat) (i2 : Int32) : Option Int32 :=
  if kd nx a0 = 9 then
  (f_M_those N nx D P a0 a1 i2).bind fun z1 =>
  (f_M_sizeOf N nx D P a0 a1 z1).bind fun z2 =>
  some z2
  else none
theorem m_M_load : MV yX9_load cX9_load 3 (some .int) 2 := ⟨mT 1034 (by decide +kernel) rfl, mT 1033 (by decide +kernel) rfl, mT 33 (by decide +kernel) rfl, mT 68 (by decide +kernel) rfl, by decide +kernel, by decide +kernel, by decide +kernel⟩
set_option maxHeartbeats 4000000 in
set_option maxRecDepth 100000 in
theorem c_M_load (l : Launch) (cx : Cx) (nx N : Nat) (D : Dt) (P : Ft) (a0 : Nat) (a1 : Nat) (i2 : Int32) (z : Int32) (h : f_M_load N nx D P a0 a1 i2 = some z) : Ct l cx yX9_load cX9_load 3 (some .int) 2 [.ref (cx.2.2 + a0), .ref (cx.2.2 + a1), .int i2] D P nx (some (.int z)) D P := by
  refine x_met0 (by decide) (Nat.le_of_ble_eq_true rfl) ?_
  intro p e s m args below meth c X
  have X : XC p s m args meth c cx cX9_load 3 (some .int) "HeartPinsModel" "load" := X
  refine XW.sub (lv' := [(0, .ref (cx.2.2 + a0)), (1, .ref (cx.2.2 + a1)), (2, .int i2)]) [0, 1, 2] rfl ?_
  unfold f_M_load at h
  obtain ⟨hk0, h⟩ := grd h
  refine x_aload_n (pc := 0) X dX9_load_0 (i := 0) rfl 0 rfl ?_
  refine x_aload_n (pc := 1) X dX9_load_1 (i := 1) rfl 1 rfl ?_
  refine x_aload_n (pc := 2) X dX9_load_2 (i := 0) rfl 0 rfl ?_
  refine x_aload_n (pc := 3) X dX9_load_3 (i := 1) rfl 1 rfl ?_
  refine x_iload_n (pc := 4) X dX9_load_4 (i := 2) rfl 2 rfl ?_
  obtain ⟨z1, e1, h⟩ := bnds h
  refine x_callV (pc := 5) (As := [.ref (cx.2.2 + a1), .int i2]) (st := [.ref (cx.2.2 + a1), .ref (cx.2.2 + a0)]) (st' := [.int z1, .ref (cx.2.2 + a1), .ref (cx.2.2 + a0)]) X (c_M_those l cx nx N D P _ _ _ z1 e1) dX9_load_5 w_1035 m_M_those rfl hk0 (ci := 9) rfl rfl ⟨by decide, by decide⟩ ⟨Nat.zero_le _, Nat.zero_le _⟩ rfl (Nat.le_of_ble_eq_true rfl) rfl ?_
  obtain ⟨z2, e2, h⟩ := bnds h
  refine x_callV (pc := 8) (As := [.ref (cx.2.2 + a1), .int z1]) (st := []) (st' := [.int z2]) X (c_M_sizeOf l cx nx N D P _ _ _ z2 e2) dX9_load_8 w_1039 m_M_sizeOf rfl hk0 (ci := 9) rfl rfl ⟨by decide, by decide⟩ ⟨Nat.zero_le _, Nat.zero_le _⟩ rfl (Nat.le_of_ble_eq_true rfl) rfl ?_
  obtain rfl := Option.some.inj h
  exact x_iret (pc := 11) X dX9_load_11
theorem dX9_doesBreak_0 : decode cX9_doesBreak 0 = .ok (.aload_n 0, 1) := by decide +kernel
theorem dX9_doesBreak_1 : decode cX9_doesBreak 1 = .ok (.aload_n 1, 1) := by decide +kernel
theorem dX9_doesBreak_2 : decode cX9_doesBreak 2 = .ok (.iload_n 2, 1) := by decide +kernel
theorem dX9_doesBreak_3 : decode cX9_doesBreak 3 = .ok (.invokevirtual 160, 3) := by decide +kernel
theorem dX9_doesBreak_6 : decode cX9_doesBreak 6 = .ok (.aload_n 0, 1) := by decide +kernel
theorem dX9_doesBreak_7 : decode cX9_doesBreak 7 = .ok (.getfield 23, 3) := by decide +kernel
theorem dX9_doesBreak_10 : decode cX9_doesBreak 10 = .ok (.iload_n 2, 1) := by decide +kernel
theorem dX9_doesBreak_11 : decode cX9_doesBreak 11 = .ok (.iaload, 1) := by decide +kernel
theorem dX9_doesBreak_12 : decode cX9_doesBreak 12 = .ok (.if_icmp .le 7, 3) := by decide +kernel
theorem dX9_doesBreak_15 : decode cX9_doesBreak 15 = .ok (.iconst 1, 1) := by decide +kernel
theorem dX9_doesBreak_16 : decode cX9_doesBreak 16 = .ok (.goto 4, 3) := by decide +kernel
theorem dX9_doesBreak_19 : decode cX9_doesBreak 19 = .ok (.iconst 0, 1) := by decide +kernel
theorem dX9_doesBreak_20 : decode cX9_doesBreak 20 = .ok (.ireturn, 1) := by decide +kernel
def f_M_doesBreak (N nx : Nat) (D : Dt) (P : Ft) (a0 : Nat) (a1 : Nat) (i2 : Int32) : Option Int32 :=
  if kd nx a0 = 9 then
  (f_M_load N nx D P a0 a1 i2).bind fun z1 =>
  nn (P a0 5) fun q2 =>
  if ab nx q2 3 i2 = true then
  if z1 ≤ D q2 i2.toNatClampNeg then
    some 0
  else
    some 1
  else none
  else none
theorem m_M_doesBreak : MV yX9_doesBreak cX9_doesBreak 3 (some .boolean) 2 := ⟨mT 1049 (by decide +kernel) rfl, mT 1048 (by decide +kernel) rfl, mT 36 (by decide +kernel) rfl, mT 68 (by decide +kernel) rfl, by decide +kernel, by decide +kernel, by decide +kernel⟩
set_option maxHeartbeats 4000000 in
set_option maxRecDepth 100000 in
theorem c_M_doesBreak (l : Launch) (cx : Cx) (nx N : Nat) (D : Dt) (P : Ft) (a0 : Nat) (a1 : Nat) (i2 : Int32) (z : Int32) (h : f_M_doesBreak N nx D P a0 a1 i2 = some z) : Ct l cx yX9_doesBreak cX9_doesBreak 3 (some .boolean) 3 [.ref (cx.2.2 + a0), .ref (cx.2.2 + a1), .int i2] D P nx (some (.int z)) D P := by
  refine x_met0 (by decide) (Nat.le_of_ble_eq_true rfl) ?_
  intro p e s m args below meth c X
  have X : XC p s m args meth c cx cX9_doesBreak 3 (some .boolean) "HeartPinsModel" "doesBreak" := X
  refine XW.sub (lv' := [(0, .ref (cx.2.2 + a0)), (1, .ref (cx.2.2 + a1)), (2, .int i2)]) [0, 1, 2] rfl ?_
  unfold f_M_doesBreak at h
  obtain ⟨hk0, h⟩ := grd h
  refine x_aload_n (pc := 0) X dX9_doesBreak_0 (i := 0) rfl 0 rfl ?_
  refine x_aload_n (pc := 1) X dX9_doesBreak_1 (i := 1) rfl 1 rfl ?_
  refine x_iload_n (pc := 2) X dX9_doesBreak_2 (i := 2) rfl 2 rfl ?_
  obtain ⟨z1, e1, h⟩ := bnds h
  refine x_callV (pc := 3) (As := [.ref (cx.2.2 + a1), .int i2]) (st := []) (st' := [.int z1]) X (c_M_load l cx nx N D P _ _ _ z1 e1) dX9_doesBreak_3 w_1031 m_M_load rfl hk0 (ci := 9) rfl rfl ⟨by decide, by decide⟩ ⟨Nat.zero_le _, Nat.zero_le _⟩ rfl (Nat.le_of_ble_eq_true rfl) rfl ?_
  refine x_aload_n (pc := 6) X dX9_doesBreak_6 (i := 0) rfl 0 rfl ?_
  obtain ⟨q2, e2, h⟩ := nns h
  refine x_getr (ci := 9) (k := 5) (n := 26) (C := RX9) (T := TX9) (pc := 7) X dX9_doesBreak_7 hk0 rfl (by decide) w_894 rfl e2 ?_
  refine x_iload_n (pc := 10) X dX9_doesBreak_10 (i := 2) rfl 2 rfl ?_
  obtain ⟨g3, h⟩ := grd h
  refine x_iald (pc := 11) X dX9_doesBreak_11 g3 ?_
  refine x_icmp_le (tgt := 19) (pc := 12) X dX9_doesBreak_12 (by decide) (fun c4 => ?_) (fun c4 => ?_)
  · have h := ite_t c4 h
    refine x_iconst (v := 0) (pc := 19) X dX9_doesBreak_19 (by decide) ?_
    obtain rfl := Option.some.inj h
    exact x_zret (pc := 20) X dX9_doesBreak_20 (Or.inl rfl)
  · have h := ite_f c4 h
    refine x_iconst (v := 1) (pc := 15) X dX9_doesBreak_15 (by decide) ?_
    refine x_goto (tgt := 20) (pc := 16) X dX9_doesBreak_16 (by decide) ?_
    obtain rfl := Option.some.inj h
    exact x_zret (pc := 20) X dX9_doesBreak_20 (Or.inr rfl)
theorem dX9_broken_0 : decode cX9_broken 0 = .ok (.iconst 0, 1) := by decide +kernel
theorem dX9_broken_1 : decode cX9_broken 1 = .ok (.istore_n 2, 1) := by decide +kernel
theorem dX9_broken_2 : decode cX9_broken 2 = .ok (.iconst 0, 1) := by decide +kernel
theorem dX9_broken_3 : decode cX9_broken 3 = .ok (.istore_n 3, 1) := by decide +kernel
theorem dX9_broken_4 : decode cX9_broken 4 = .ok (.iload_n 3, 1) := by decide +kernel
theorem dX9_broken_5 : decode cX9_broken 5 = .ok (.aload_n 0, 1) := by decide +kernel
theorem dX9_broken_6 : decode cX9_broken 6 = .ok (.getfield 13, 3) := by decide +kernel
theorem dX9_broken_9 : decode cX9_broken 9 = .ok (.iconst 0, 1) := by decide +kernel
theorem dX9_broken_10 : decode cX9_broken 10 = .ok (.iaload, 1) := by decide +kernel
theorem dX9_broken_11 : decode cX9_broken 11 = .ok (.if_icmp .ge 26, 3) := by decide +kernel
theorem dX9_broken_14 : decode cX9_broken 14 = .ok (.iload_n 2, 1) := by decide +kernel
theorem dX9_broken_15 : decode cX9_broken 15 = .ok (.aload_n 0, 1) := by decide +kernel
theorem dX9_broken_16 : decode cX9_broken 16 = .ok (.aload_n 1, 1) := by decide +kernel
theorem dX9_broken_17 : decode cX9_broken 17 = .ok (.iload_n 3, 1) := by decide +kernel
theorem dX9_broken_18 : decode cX9_broken 18 = .ok (.invokevirtual 163, 3) := by decide +kernel
theorem dX9_broken_21 : decode cX9_broken 21 = .ok (.ifCond .eq 7, 3) := by decide +kernel
theorem dX9_broken_24 : decode cX9_broken 24 = .ok (.iconst 1, 1) := by decide +kernel
theorem dX9_broken_25 : decode cX9_broken 25 = .ok (.goto 4, 3) := by decide +kernel
theorem dX9_broken_28 : decode cX9_broken 28 = .ok (.iconst 0, 1) := by decide +kernel
theorem dX9_broken_29 : decode cX9_broken 29 = .ok (.iadd, 1) := by decide +kernel
theorem dX9_broken_30 : decode cX9_broken 30 = .ok (.istore_n 2, 1) := by decide +kernel
theorem dX9_broken_31 : decode cX9_broken 31 = .ok (.iinc 3 1, 3) := by decide +kernel
theorem dX9_broken_34 : decode cX9_broken 34 = .ok (.goto (-30), 3) := by decide +kernel
theorem dX9_broken_37 : decode cX9_broken 37 = .ok (.iload_n 2, 1) := by decide +kernel
theorem dX9_broken_38 : decode cX9_broken 38 = .ok (.ireturn, 1) := by decide +kernel
def f_M_broken_4 (N nx : Nat) (D : Dt) (P : Ft) (a0 : Nat) (a1 : Nat) (rec4 : Int32 → Int32 → Option Int32) (i2 : Int32) (i3 : Int32) : Option Int32 :=
  nn (P a0 2) fun q1 =>
  if ab nx q1 3 0 = true then
  if D q1 (0 : Int32).toNatClampNeg ≤ i3 then
    some i2
  else
    (f_M_doesBreak N nx D P a0 a1 i3).bind fun z3 =>
    if z3 = 0 then
      rec4 (i2 + 0) (i3 + 1)
    else
      rec4 (i2 + 1) (i3 + 1)
  else none
def f_M_broken (N nx : Nat) (D : Dt) (P : Ft) (a0 : Nat) (a1 : Nat) : Option Int32 :=
  if kd nx a0 = 9 then
  wk2 N (f_M_broken_4 N nx D P a0 a1) 0 0
  else none
theorem m_M_broken : MV yX9_broken cX9_broken 4 (some .int) 1 := ⟨mT 1146 (by decide +kernel) rfl, mT 1145 (by decide +kernel) rfl, mT 46 (by decide +kernel) rfl, mT 68 (by decide +kernel) rfl, by decide +kernel, by decide +kernel, by decide +kernel⟩
set_option maxHeartbeats 4000000 in
set_option maxRecDepth 100000 in
theorem c_M_broken (l : Launch) (cx : Cx) (nx N : Nat) (D : Dt) (P : Ft) (a0 : Nat) (a1 : Nat) (z : Int32) (h : f_M_broken N nx D P a0 a1 = some z) : Ct l cx yX9_broken cX9_broken 4 (some .int) 4 [.ref (cx.2.2 + a0), .ref (cx.2.2 + a1)] D P nx (some (.int z)) D P := by
  refine x_met0 (by decide) (Nat.le_of_ble_eq_true rfl) ?_
  intro p e s m args below meth c X
  have X : XC p s m args meth c cx cX9_broken 4 (some .int) "HeartPinsModel" "broken" := X
  refine XW.sub (lv' := [(0, .ref (cx.2.2 + a0)), (1, .ref (cx.2.2 + a1))]) [0, 1] rfl ?_
  unfold f_M_broken at h
  obtain ⟨hk0, h⟩ := grd h
  have hL4 : ∀ (n : Nat) (i2 : Int32) (i3 : Int32), wk2 n (f_M_broken_4 N nx D P a0 a1) i2 i3 = some z → XW p l e (rmk 4) s m args below meth c (MQ below (Qx cx (some (.int z)) D P nx) args s 0 0 (AA cx)) cx 4 D P nx 0 0 4 [(0, .ref (cx.2.2 + a0)), (1, .ref (cx.2.2 + a1)), (2, .int i2), (3, .int i3)] [] := by
    intro n
    induction n with
    | zero => intro i2 i3 h; exact (nonz h).elim
    | succ n ih4 =>
      intro i2 i3 h
      have h : f_M_broken_4 N nx D P a0 a1 (wk2 n (f_M_broken_4 N nx D P a0 a1)) i2 i3 = some z := h
      generalize wk2 n (f_M_broken_4 N nx D P a0 a1) = rec4 at ih4 h
      unfold f_M_broken_4 at h
      refine x_iload_n (pc := 4) X dX9_broken_4 (i := 3) rfl 3 rfl ?_
      refine x_aload_n (pc := 5) X dX9_broken_5 (i := 0) rfl 0 rfl ?_
      obtain ⟨q1, e1, h⟩ := nns h
      refine x_getr (ci := 9) (k := 2) (n := 26) (C := RX9) (T := TX9) (pc := 6) X dX9_broken_6 hk0 rfl (by decide) w_891 rfl e1 ?_
      refine x_iconst (v := 0) (pc := 9) X dX9_broken_9 (by decide) ?_
      obtain ⟨g2, h⟩ := grd h
      refine x_iald (pc := 10) X dX9_broken_10 g2 ?_
      refine x_icmp_ge (tgt := 37) (pc := 11) X dX9_broken_11 (by decide) (fun c5 => ?_) (fun c5 => ?_)
      · have h := ite_t c5 h
        refine x_iload_n (pc := 37) X dX9_broken_37 (i := 2) rfl 2 rfl ?_
        obtain rfl := Option.some.inj h
        exact x_iret (pc := 38) X dX9_broken_38
      · have h := ite_f c5 h
        refine x_iload_n (pc := 14) X dX9_broken_14 (i := 2) rfl 2 rfl ?_
        refine x_aload_n (pc := 15) X dX9_broken_15 (i := 0) rfl 0 rfl ?_
        refine x_aload_n (pc := 16) X dX9_broken_16 (i := 1) rfl 1 rfl ?_
        refine x_iload_n (pc := 17) X dX9_broken_17 (i := 3) rfl 3 rfl ?_
        obtain ⟨z3, e3, h⟩ := bnds h
        refine x_callV (pc := 18) (As := [.ref (cx.2.2 + a1), .int i3]) (st := [.int i2]) (st' := [.int z3, .int i2]) X (c_M_doesBreak l cx nx N D P _ _ _ z3 e3) dX9_broken_18 w_1046 m_M_doesBreak rfl hk0 (ci := 9) rfl rfl ⟨by decide, by decide⟩ ⟨Nat.zero_le _, Nat.zero_le _⟩ rfl (Nat.le_of_ble_eq_true rfl) rfl ?_
        refine x_if_eq (tgt := 28) (pc := 21) X dX9_broken_21 (by decide) (fun c4 => ?_) (fun c4 => ?_)
        · have h := ite_t c4 h
          refine x_iconst (v := 0) (pc := 28) X dX9_broken_28 (by decide) ?_
          refine x_iadd (pc := 29) X dX9_broken_29 ?_
          refine x_istore_n (lv' := [(2, .int (i2 + 0)), (0, .ref (cx.2.2 + a0)), (1, .ref (cx.2.2 + a1)), (3, .int i3)]) (pc := 30) X dX9_broken_30 (i := 2) rfl (by decide) rfl ?_
          refine x_iinc (v := i3 + 1) (lv' := [(3, .int (i3 + 1)), (2, .int (i2 + 0)), (0, .ref (cx.2.2 + a0)), (1, .ref (cx.2.2 + a1))]) (pc := 31) X dX9_broken_31 3 rfl rfl (by decide) rfl ?_
          refine x_goto (tgt := 4) (pc := 34) X dX9_broken_34 (by decide) ?_
          exact XW.sub [2, 3, 1, 0] rfl (ih4 _ _ h)
        · have h := ite_f c4 h
          refine x_iconst (v := 1) (pc := 24) X dX9_broken_24 (by decide) ?_
          refine x_goto (tgt := 29) (pc := 25) X dX9_broken_25 (by decide) ?_
          refine x_iadd (pc := 29) X dX9_broken_29 ?_
          refine x_istore_n (lv' := [(2, .int (i2 + 1)), (0, .ref (cx.2.2 + a0)), (1, .ref (cx.2.2 + a1)), (3, .int i3)]) (pc := 30) X dX9_broken_30 (i := 2) rfl (by decide) rfl ?_
          refine x_iinc (v := i3 + 1) (lv' := [(3, .int (i3 + 1)), (2, .int (i2 + 1)), (0, .ref (cx.2.2 + a0)), (1, .ref (cx.2.2 + a1))]) (pc := 31) X dX9_broken_31 3 rfl rfl (by decide) rfl ?_
          refine x_goto (tgt := 4) (pc := 34) X dX9_broken_34 (by decide) ?_
          exact XW.sub [2, 3, 1, 0] rfl (ih4 _ _ h)
  refine x_iconst (v := 0) (pc := 0) X dX9_broken_0 (by decide) ?_
  refine x_istore_n (lv' := [(2, .int 0), (0, .ref (cx.2.2 + a0)), (1, .ref (cx.2.2 + a1))]) (pc := 1) X dX9_broken_1 (i := 2) rfl (by decide) rfl ?_
  refine x_iconst (v := 0) (pc := 2) X dX9_broken_2 (by decide) ?_
  refine x_istore_n (lv' := [(3, .int 0), (2, .int 0), (0, .ref (cx.2.2 + a0)), (1, .ref (cx.2.2 + a1))]) (pc := 3) X dX9_broken_3 (i := 3) rfl (by decide) rfl ?_
  exact XW.sub [2, 3, 1, 0] rfl (hL4 _ _ _ h)
theorem dX9_isFull_0 : decode cX9_isFull 0 = .ok (.aload_n 0, 1) := by decide +kernel
theorem dX9_isFull_1 : decode cX9_isFull 1 = .ok (.aload_n 1, 1) := by decide +kernel
theorem dX9_isFull_2 : decode cX9_isFull 2 = .ok (.aload_n 0, 1) := by decide +kernel
theorem dX9_isFull_3 : decode cX9_isFull 3 = .ok (.aload_n 1, 1) := by decide +kernel
theorem dX9_isFull_4 : decode cX9_isFull 4 = .ok (.iconst 5, 1) := by decide +kernel
theorem dX9_isFull_5 : decode cX9_isFull 5 = .ok (.invokevirtual 153, 3) := by decide +kernel
theorem dX9_isFull_8 : decode cX9_isFull 8 = .ok (.invokevirtual 157, 3) := by decide +kernel
theorem dX9_isFull_11 : decode cX9_isFull 11 = .ok (.aload_n 0, 1) := by decide +kernel
theorem dX9_isFull_12 : decode cX9_isFull 12 = .ok (.getfield 20, 3) := by decide +kernel
theorem dX9_isFull_15 : decode cX9_isFull 15 = .ok (.iconst 0, 1) := by decide +kernel
theorem dX9_isFull_16 : decode cX9_isFull 16 = .ok (.iaload, 1) := by decide +kernel
theorem dX9_isFull_17 : decode cX9_isFull 17 = .ok (.if_icmp .le 7, 3) := by decide +kernel
theorem dX9_isFull_20 : decode cX9_isFull 20 = .ok (.iconst 1, 1) := by decide +kernel
theorem dX9_isFull_21 : decode cX9_isFull 21 = .ok (.goto 4, 3) := by decide +kernel
theorem dX9_isFull_24 : decode cX9_isFull 24 = .ok (.iconst 0, 1) := by decide +kernel
theorem dX9_isFull_25 : decode cX9_isFull 25 = .ok (.ireturn, 1) := by decide +kernel
def f_M_isFull (N nx : Nat) (D : Dt) (P : Ft) (a0 : Nat) (a1 : Nat) : Option Int32 :=
  if kd nx a0 = 9 then
  (f_M_those N nx D P a0 a1 5).bind fun z1 =>
  (f_M_sizeOf N nx D P a0 a1 z1).bind fun z2 =>
  nn (P a0 4) fun q3 =>
  if ab nx q3 3 0 = true then
  if z2 ≤ D q3 (0 : Int32).toNatClampNeg then
    some 0
  else
    some 1
  else none
  else none
theorem m_M_isFull : MV yX9_isFull cX9_isFull 2 (some .boolean) 1 := ⟨mT 1068 (by decide +kernel) rfl, mT 1067 (by decide +kernel) rfl, mT 38 (by decide +kernel) rfl, mT 68 (by decide +kernel) rfl, by decide +kernel, by decide +kernel, by decide +kernel⟩
set_option maxHeartbeats 4000000 in
set_option maxRecDepth 100000 in
theorem c_M_isFull (l : Launch) (cx : Cx) (nx N : Nat) (D : Dt) (P : Ft) (a0 : Nat) (a1 : Nat) (z : Int32) (h : f_M_isFull N nx D P a0 a1 = some z) : Ct l cx yX9_isFull cX9_isFull 2 (some .boolean) 2 [.ref (cx.2.2 + a0), .ref (cx.2.2 + a1)] D P nx (some (.int z)) D P := by
  refine x_met0 (by decide) (Nat.le_of_ble_eq_true rfl) ?_
  intro p e s m args below meth c X
  have X : XC p s m args meth c cx cX9_isFull 2 (some .boolean) "HeartPinsModel" "isFull" := X
  refine XW.sub (lv' := [(0, .ref (cx.2.2 + a0)), (1, .ref (cx.2.2 + a1))]) [0, 1] rfl ?_
  unfold f_M_isFull at h
  obtain ⟨hk0, h⟩ := grd h
  refine x_aload_n (pc := 0) X dX9_isFull_0 (i := 0) rfl 0 rfl ?_
  refine x_aload_n (pc := 1) X dX9_isFull_1 (i := 1) rfl 1 rfl ?_
  refine x_aload_n (pc := 2) X dX9_isFull_2 (i := 0) rfl 0 rfl ?_
  refine x_aload_n (pc := 3) X dX9_isFull_3 (i := 1) rfl 1 rfl ?_
  refine x_iconst (v := 5) (pc := 4) X dX9_isFull_4 (by decide) ?_
  obtain ⟨z1, e1, h⟩ := bnds h
  refine x_callV (pc := 5) (As := [.ref (cx.2.2 + a1), .int 5]) (st := [.ref (cx.2.2 + a1), .ref (cx.2.2 + a0)]) (st' := [.int z1, .ref (cx.2.2 + a1), .ref (cx.2.2 + a0)]) X (c_M_those l cx nx N D P _ _ _ z1 e1) dX9_isFull_5 w_1035 m_M_those rfl hk0 (ci := 9) rfl rfl ⟨by decide, by decide⟩ ⟨Nat.zero_le _, Nat.zero_le _⟩ rfl (Nat.le_of_ble_eq_true rfl) rfl ?_
  obtain ⟨z2, e2, h⟩ := bnds h
  refine x_callV (pc := 8) (As := [.ref (cx.2.2 + a1), .int z1]) (st := []) (st' := [.int z2]) X (c_M_sizeOf l cx nx N D P _ _ _ z2 e2) dX9_isFull_8 w_1039 m_M_sizeOf rfl hk0 (ci := 9) rfl rfl ⟨by decide, by decide⟩ ⟨Nat.zero_le _, Nat.zero_le _⟩ rfl (Nat.le_of_ble_eq_true rfl) rfl ?_
  refine x_aload_n (pc := 11) X dX9_isFull_11 (i := 0) rfl 0 rfl ?_
  obtain ⟨q3, e3, h⟩ := nns h
  refine x_getr (ci := 9) (k := 4) (n := 26) (C := RX9) (T := TX9) (pc := 12) X dX9_isFull_12 hk0 rfl (by decide) w_893 rfl e3 ?_
  refine x_iconst (v := 0) (pc := 15) X dX9_isFull_15 (by decide) ?_
  obtain ⟨g4, h⟩ := grd h
  refine x_iald (pc := 16) X dX9_isFull_16 g4 ?_
  refine x_icmp_le (tgt := 24) (pc := 17) X dX9_isFull_17 (by decide) (fun c5 => ?_) (fun c5 => ?_)
  · have h := ite_t c5 h
    refine x_iconst (v := 0) (pc := 24) X dX9_isFull_24 (by decide) ?_
    obtain rfl := Option.some.inj h
    exact x_zret (pc := 25) X dX9_isFull_25 (Or.inl rfl)
  · have h := ite_f c5 h
    refine x_iconst (v := 1) (pc := 20) X dX9_isFull_20 (by decide) ?_
    refine x_goto (tgt := 25) (pc := 21) X dX9_isFull_21 (by decide) ?_
    obtain rfl := Option.some.inj h
    exact x_zret (pc := 25) X dX9_isFull_25 (Or.inr rfl)
theorem dX9_isAtDoor_0 : decode cX9_isAtDoor 0 = .ok (.aload_n 1, 1) := by decide +kernel
theorem dX9_isAtDoor_1 : decode cX9_isAtDoor 1 = .ok (.iconst 1, 1) := by decide +kernel
theorem dX9_isAtDoor_2 : decode cX9_isAtDoor 2 = .ok (.iaload, 1) := by decide +kernel
theorem dX9_isAtDoor_3 : decode cX9_isAtDoor 3 = .ok (.aload_n 0, 1) := by decide +kernel
theorem dX9_isAtDoor_4 : decode cX9_isAtDoor 4 = .ok (.getfield 20, 3) := by decide +kernel
theorem dX9_isAtDoor_7 : decode cX9_isAtDoor 7 = .ok (.iconst 1, 1) := by decide +kernel
theorem dX9_isAtDoor_8 : decode cX9_isAtDoor 8 = .ok (.iaload, 1) := by decide +kernel
theorem dX9_isAtDoor_9 : decode cX9_isAtDoor 9 = .ok (.if_icmp .ne 7, 3) := by decide +kernel
theorem dX9_isAtDoor_12 : decode cX9_isAtDoor 12 = .ok (.iconst 1, 1) := by decide +kernel
theorem dX9_isAtDoor_13 : decode cX9_isAtDoor 13 = .ok (.goto 4, 3) := by decide +kernel
theorem dX9_isAtDoor_16 : decode cX9_isAtDoor 16 = .ok (.iconst 0, 1) := by decide +kernel
theorem dX9_isAtDoor_17 : decode cX9_isAtDoor 17 = .ok (.ireturn, 1) := by decide +kernel
def f_M_isAtDoor (N nx : Nat) (D : Dt) (P : Ft) (a0 : Nat) (a1 : Nat) : Option Int32 :=
  if kd nx a0 = 9 then
  if ab nx a1 3 1 = true then
  nn (P a0 4) fun q2 =>
  if ab nx q2 3 1 = true then
  if D a1 (1 : Int32).toNatClampNeg = D q2 (1 : Int32).toNatClampNeg then
    some 1
  else
    some 0
  else none
  else none
  else none
theorem m_M_isAtDoor : MV yX9_isAtDoor cX9_isAtDoor 2 (some .boolean) 1 := ⟨mT 1072 (by decide +kernel) rfl, mT 1071 (by decide +kernel) rfl, mT 39 (by decide +kernel) rfl, mT 68 (by decide +kernel) rfl, by decide +kernel, by decide +kernel, by decide +kernel⟩
set_option maxHeartbeats 4000000 in
set_option maxRecDepth 100000 in
theorem c_M_isAtDoor (l : Launch) (cx : Cx) (nx N : Nat) (D : Dt) (P : Ft) (a0 : Nat) (a1 : Nat) (z : Int32) (h : f_M_isAtDoor N nx D P a0 a1 = some z) : Ct l cx yX9_isAtDoor cX9_isAtDoor 2 (some .boolean) 0 [.ref (cx.2.2 + a0), .ref (cx.2.2 + a1)] D P nx (some (.int z)) D P := by
  refine x_met0 (by decide) (Nat.le_of_ble_eq_true rfl) ?_
  intro p e s m args below meth c X
  have X : XC p s m args meth c cx cX9_isAtDoor 2 (some .boolean) "HeartPinsModel" "isAtDoor" := X
  refine XW.sub (lv' := [(0, .ref (cx.2.2 + a0)), (1, .ref (cx.2.2 + a1))]) [0, 1] rfl ?_
  unfold f_M_isAtDoor at h
  obtain ⟨hk0, h⟩ := grd h
  refine x_aload_n (pc := 0) X dX9_isAtDoor_0 (i := 1) rfl 1 rfl ?_
  refine x_iconst (v := 1) (pc := 1) X dX9_isAtDoor_1 (by decide) ?_
  obtain ⟨g1, h⟩ := grd h
  refine x_iald (pc := 2) X dX9_isAtDoor_2 g1 ?_
  refine x_aload_n (pc := 3) X dX9_isAtDoor_3 (i := 0) rfl 0 rfl ?_
  obtain ⟨q2, e2, h⟩ := nns h
  refine x_getr (ci := 9) (k := 4) (n := 26) (C := RX9) (T := TX9) (pc := 4) X dX9_isAtDoor_4 hk0 rfl (by decide) w_893 rfl e2 ?_
  refine x_iconst (v := 1) (pc := 7) X dX9_isAtDoor_7 (by decide) ?_
  obtain ⟨g3, h⟩ := grd h
  refine x_iald (pc := 8) X dX9_isAtDoor_8 g3 ?_
  refine x_icmp_ne (tgt := 16) (pc := 9) X dX9_isAtDoor_9 (by decide) (fun c4 => ?_) (fun c4 => ?_)
  · have h := ite_f c4 h
    refine x_iconst (v := 0) (pc := 16) X dX9_isAtDoor_16 (by decide) ?_
    obtain rfl := Option.some.inj h
    exact x_zret (pc := 17) X dX9_isAtDoor_17 (Or.inl rfl)
  · have h := ite_t c4 h
    refine x_iconst (v := 1) (pc := 12) X dX9_isAtDoor_12 (by decide) ?_
    refine x_goto (tgt := 17) (pc := 13) X dX9_isAtDoor_13 (by decide) ?_
    obtain rfl := Option.some.inj h
    exact x_zret (pc := 17) X dX9_isAtDoor_17 (Or.inr rfl)
theorem dX9_grown_0 : decode cX9_grown 0 = .ok (.iload_n 1, 1) := by decide +kernel
theorem dX9_grown_1 : decode cX9_grown 1 = .ok (.iconst 1, 1) := by decide +kernel
theorem dX9_grown_2 : decode cX9_grown 2 = .ok (.if_icmp .eq 14, 3) := by decide +kernel
theorem dX9_grown_5 : decode cX9_grown 5 = .ok (.iload_n 1, 1) := by decide +kernel
theorem dX9_grown_6 : decode cX9_grown 6 = .ok (.iconst 3, 1) := by decide +kernel
theorem dX9_grown_7 : decode cX9_grown 7 = .ok (.if_icmp .ne 13, 3) := by decide +kernel
theorem dX9_grown_10 : decode cX9_grown 10 = .ok (.iload_n 2, 1) := by decide +kernel
theorem dX9_grown_11 : decode cX9_grown 11 = .ok (.iconst 2, 1) := by decide +kernel
theorem dX9_grown_12 : decode cX9_grown 12 = .ok (.irem, 1) := by decide +kernel
theorem dX9_grown_13 : decode cX9_grown 13 = .ok (.ifCond .ne 7, 3) := by decide +kernel
theorem dX9_grown_16 : decode cX9_grown 16 = .ok (.iconst 1, 1) := by decide +kernel
theorem dX9_grown_17 : decode cX9_grown 17 = .ok (.goto 12, 3) := by decide +kernel
theorem dX9_grown_20 : decode cX9_grown 20 = .ok (.iload_n 1, 1) := by decide +kernel
theorem dX9_grown_21 : decode cX9_grown 21 = .ok (.ifCond .ne 7, 3) := by decide +kernel
theorem dX9_grown_24 : decode cX9_grown 24 = .ok (.iconst 0, 1) := by decide +kernel
theorem dX9_grown_25 : decode cX9_grown 25 = .ok (.goto 4, 3) := by decide +kernel
theorem dX9_grown_28 : decode cX9_grown 28 = .ok (.iconst (-1), 1) := by decide +kernel
theorem dX9_grown_29 : decode cX9_grown 29 = .ok (.istore_n 3, 1) := by decide +kernel
theorem dX9_grown_30 : decode cX9_grown 30 = .ok (.iload_n 0, 1) := by decide +kernel
theorem dX9_grown_31 : decode cX9_grown 31 = .ok (.iload_n 3, 1) := by decide +kernel
theorem dX9_grown_32 : decode cX9_grown 32 = .ok (.iadd, 1) := by decide +kernel
theorem dX9_grown_33 : decode cX9_grown 33 = .ok (.bipush 40, 2) := by decide +kernel
theorem dX9_grown_35 : decode cX9_grown 35 = .ok (.if_icmp .le 8, 3) := by decide +kernel
theorem dX9_grown_38 : decode cX9_grown 38 = .ok (.bipush 40, 2) := by decide +kernel
theorem dX9_grown_40 : decode cX9_grown 40 = .ok (.goto 6, 3) := by decide +kernel
theorem dX9_grown_43 : decode cX9_grown 43 = .ok (.iload_n 0, 1) := by decide +kernel
theorem dX9_grown_44 : decode cX9_grown 44 = .ok (.iload_n 3, 1) := by decide +kernel
theorem dX9_grown_45 : decode cX9_grown 45 = .ok (.iadd, 1) := by decide +kernel
theorem dX9_grown_46 : decode cX9_grown 46 = .ok (.ireturn, 1) := by decide +kernel
def f_M_grown_29 (N nx : Nat) (D : Dt) (P : Ft) (i0 : Int32) (s0 : Int32) : Option Int32 :=
  if i0 + s0 ≤ 40 then
    some (i0 + s0)
  else
    some 40
def f_M_grown_20 (N nx : Nat) (D : Dt) (P : Ft) (i0 : Int32) (i1 : Int32) : Option Int32 :=
  if i1 = 0 then
    f_M_grown_29 N nx D P i0 0
  else
    f_M_grown_29 N nx D P i0 (-1)
def f_M_grown (N nx : Nat) (D : Dt) (P : Ft) (i0 : Int32) (i1 : Int32) (i2 : Int32) : Option Int32 :=
  if i1 = 1 then
    f_M_grown_29 N nx D P i0 1
  else
    if i1 = 3 then
      if i2 - i2 / 2 * 2 = 0 then
        f_M_grown_29 N nx D P i0 1
      else
        f_M_grown_20 N nx D P i0 i1
    else
      f_M_grown_20 N nx D P i0 i1
theorem m_M_grown : MS yX9_grown cX9_grown 4 (some .int) 3 := ⟨mT 1099 (by decide +kernel) rfl, mT 1098 (by decide +kernel) rfl, mT 68 (by decide +kernel) rfl, by decide +kernel, by decide +kernel, by decide +kernel⟩
set_option maxHeartbeats 4000000 in
set_option maxRecDepth 100000 in
theorem c_M_grown (l : Launch) (cx : Cx) (nx N : Nat) (D : Dt) (P : Ft) (i0 : Int32) (i1 : Int32) (i2 : Int32) (z : Int32) (h : f_M_grown N nx D P i0 i1 i2 = some z) : Ct l cx yX9_grown cX9_grown 4 (some .int) 0 [.int i0, .int i1, .int i2] D P nx (some (.int z)) D P := by
  refine x_met0 (by decide) (Nat.le_of_ble_eq_true rfl) ?_
  intro p e s m args below meth c X
  have X : XC p s m args meth c cx cX9_grown 4 (some .int) "HeartPinsModel" "grown" := X
  refine XW.sub (lv' := [(0, .int i0), (1, .int i1), (2, .int i2)]) [0, 1, 2] rfl ?_
  unfold f_M_grown at h
  have hJ29 : ∀ (s0 : Int32), f_M_grown_29 N nx D P i0 s0 = some z → XW p l e (rmk 0) s m args below meth c (MQ below (Qx cx (some (.int z)) D P nx) args s 0 0 (AA cx)) cx 4 D P nx 0 0 29 [(0, .int i0)] [.int s0] := by
    intro s0 h
    unfold f_M_grown_29 at h
    refine x_istore_n (lv' := [(3, .int s0), (0, .int i0)]) (pc := 29) X dX9_grown_29 (i := 3) rfl (by decide) rfl ?_
    refine x_iload_n (pc := 30) X dX9_grown_30 (i := 0) rfl 1 rfl ?_
    refine x_iload_n (pc := 31) X dX9_grown_31 (i := 3) rfl 0 rfl ?_
    refine x_iadd (pc := 32) X dX9_grown_32 ?_
    refine x_bipush (v := 40) (pc := 33) X dX9_grown_33 (by decide) ?_
    refine x_icmp_le (tgt := 43) (pc := 35) X dX9_grown_35 (by decide) (fun c1 => ?_) (fun c1 => ?_)
    · have h := ite_t c1 h
      refine x_iload_n (pc := 43) X dX9_grown_43 (i := 0) rfl 1 rfl ?_
      refine x_iload_n (pc := 44) X dX9_grown_44 (i := 3) rfl 0 rfl ?_
      refine x_iadd (pc := 45) X dX9_grown_45 ?_
      obtain rfl := Option.some.inj h
      exact x_iret (pc := 46) X dX9_grown_46
    · have h := ite_f c1 h
      refine x_bipush (v := 40) (pc := 38) X dX9_grown_38 (by decide) ?_
      refine x_goto (tgt := 46) (pc := 40) X dX9_grown_40 (by decide) ?_
      obtain rfl := Option.some.inj h
      exact x_iret (pc := 46) X dX9_grown_46
  have hJ20 : f_M_grown_20 N nx D P i0 i1 = some z → XW p l e (rmk 0) s m args below meth c (MQ below (Qx cx (some (.int z)) D P nx) args s 0 0 (AA cx)) cx 4 D P nx 0 0 20 [(0, .int i0), (1, .int i1)] [] := by
    intro  h
    unfold f_M_grown_20 at h
    refine x_iload_n (pc := 20) X dX9_grown_20 (i := 1) rfl 1 rfl ?_
    refine x_if_ne (tgt := 28) (pc := 21) X dX9_grown_21 (by decide) (fun c2 => ?_) (fun c2 => ?_)
    · have h := ite_f c2 h
      refine x_iconst (v := (-1)) (pc := 28) X dX9_grown_28 (by decide) ?_
      exact XW.sub [0] rfl (hJ29 _ h)
    · have h := ite_t c2 h
      refine x_iconst (v := 0) (pc := 24) X dX9_grown_24 (by decide) ?_
      refine x_goto (tgt := 29) (pc := 25) X dX9_grown_25 (by decide) ?_
      exact XW.sub [0] rfl (hJ29 _ h)
  refine x_iload_n (pc := 0) X dX9_grown_0 (i := 1) rfl 1 rfl ?_
  refine x_iconst (v := 1) (pc := 1) X dX9_grown_1 (by decide) ?_
  refine x_icmp_eq (tgt := 16) (pc := 2) X dX9_grown_2 (by decide) (fun c6 => ?_) (fun c6 => ?_)
  · have h := ite_t c6 h
    refine x_iconst (v := 1) (pc := 16) X dX9_grown_16 (by decide) ?_
    refine x_goto (tgt := 29) (pc := 17) X dX9_grown_17 (by decide) ?_
    exact XW.sub [0] rfl (hJ29 _ h)
  · have h := ite_f c6 h
    refine x_iload_n (pc := 5) X dX9_grown_5 (i := 1) rfl 1 rfl ?_
    refine x_iconst (v := 3) (pc := 6) X dX9_grown_6 (by decide) ?_
    refine x_icmp_ne (tgt := 20) (pc := 7) X dX9_grown_7 (by decide) (fun c5 => ?_) (fun c5 => ?_)
    · have h := ite_f c5 h
      exact XW.sub [0, 1] rfl (hJ20  h)
    · have h := ite_t c5 h
      refine x_iload_n (pc := 10) X dX9_grown_10 (i := 2) rfl 2 rfl ?_
      refine x_iconst (v := 2) (pc := 11) X dX9_grown_11 (by decide) ?_
      refine x_irem (pc := 12) X dX9_grown_12 (by decide) ?_
      refine x_if_ne (tgt := 20) (pc := 13) X dX9_grown_13 (by decide) (fun c4 => ?_) (fun c4 => ?_)
      · have h := ite_f c4 h
        exact XW.sub [0, 1] rfl (hJ20  h)
      · have h := ite_t c4 h
        refine x_iconst (v := 1) (pc := 16) X dX9_grown_16 (by decide) ?_
        refine x_goto (tgt := 29) (pc := 17) X dX9_grown_17 (by decide) ?_
        exact XW.sub [0] rfl (hJ29 _ h)
theorem dX9_passOn_0 : decode cX9_passOn 0 = .ok (.aload_n 0, 1) := by decide +kernel
theorem dX9_passOn_1 : decode cX9_passOn 1 = .ok (.aload_n 1, 1) := by decide +kernel
theorem dX9_passOn_2 : decode cX9_passOn 2 = .ok (.invokevirtual 166, 3) := by decide +kernel
theorem dX9_passOn_5 : decode cX9_passOn 5 = .ok (.istore_n 2, 1) := by decide +kernel
theorem dX9_passOn_6 : decode cX9_passOn 6 = .ok (.iconst 0, 1) := by decide +kernel
theorem dX9_passOn_7 : decode cX9_passOn 7 = .ok (.istore_n 3, 1) := by decide +kernel
theorem dX9_passOn_8 : decode cX9_passOn 8 = .ok (.iload_n 3, 1) := by decide +kernel
theorem dX9_passOn_9 : decode cX9_passOn 9 = .ok (.aload_n 0, 1) := by decide +kernel
theorem dX9_passOn_10 : decode cX9_passOn 10 = .ok (.getfield 17, 3) := by decide +kernel
theorem dX9_passOn_13 : decode cX9_passOn 13 = .ok (.iconst 0, 1) := by decide +kernel
theorem dX9_passOn_14 : decode cX9_passOn 14 = .ok (.iaload, 1) := by decide +kernel
theorem dX9_passOn_15 : decode cX9_passOn 15 = .ok (.if_icmp .ge 106, 3) := by decide +kernel
theorem dX9_passOn_18 : decode cX9_passOn 18 = .ok (.aload_n 1, 1) := by decide +kernel
theorem dX9_passOn_19 : decode cX9_passOn 19 = .ok (.iconst 2, 1) := by decide +kernel
theorem dX9_passOn_20 : decode cX9_passOn 20 = .ok (.iload_n 3, 1) := by decide +kernel
theorem dX9_passOn_21 : decode cX9_passOn 21 = .ok (.iadd, 1) := by decide +kernel
theorem dX9_passOn_22 : decode cX9_passOn 22 = .ok (.iaload, 1) := by decide +kernel
theorem dX9_passOn_23 : decode cX9_passOn 23 = .ok (.bipush 6, 2) := by decide +kernel
theorem dX9_passOn_25 : decode cX9_passOn 25 = .ok (.if_icmp .ge 90, 3) := by decide +kernel
theorem dX9_passOn_28 : decode cX9_passOn 28 = .ok (.aload_n 1, 1) := by decide +kernel
theorem dX9_passOn_29 : decode cX9_passOn 29 = .ok (.bipush 10, 2) := by decide +kernel
theorem dX9_passOn_31 : decode cX9_passOn 31 = .ok (.iload_n 3, 1) := by decide +kernel
theorem dX9_passOn_32 : decode cX9_passOn 32 = .ok (.iadd, 1) := by decide +kernel
theorem dX9_passOn_33 : decode cX9_passOn 33 = .ok (.iaload, 1) := by decide +kernel
theorem dX9_passOn_34 : decode cX9_passOn 34 = .ok (.aload_n 0, 1) := by decide +kernel
theorem dX9_passOn_35 : decode cX9_passOn 35 = .ok (.getfield 29, 3) := by decide +kernel
theorem dX9_passOn_38 : decode cX9_passOn 38 = .ok (.iload_n 3, 1) := by decide +kernel
theorem dX9_passOn_39 : decode cX9_passOn 39 = .ok (.iaload, 1) := by decide +kernel
theorem dX9_passOn_40 : decode cX9_passOn 40 = .ok (.aload_n 1, 1) := by decide +kernel
theorem dX9_passOn_41 : decode cX9_passOn 41 = .ok (.iconst 0, 1) := by decide +kernel
theorem dX9_passOn_42 : decode cX9_passOn 42 = .ok (.iaload, 1) := by decide +kernel
theorem dX9_passOn_43 : decode cX9_passOn 43 = .ok (.invokestatic 170, 3) := by decide +kernel
theorem dX9_passOn_46 : decode cX9_passOn 46 = .ok (.istore 4, 2) := by decide +kernel
theorem dX9_passOn_48 : decode cX9_passOn 48 = .ok (.iload 4, 2) := by decide +kernel
theorem dX9_passOn_50 : decode cX9_passOn 50 = .ok (.iload_n 2, 1) := by decide +kernel
theorem dX9_passOn_51 : decode cX9_passOn 51 = .ok (.ifCond .eq 23, 3) := by decide +kernel
theorem dX9_passOn_54 : decode cX9_passOn 54 = .ok (.aload_n 1, 1) := by decide +kernel
theorem dX9_passOn_55 : decode cX9_passOn 55 = .ok (.iconst 2, 1) := by decide +kernel
theorem dX9_passOn_56 : decode cX9_passOn 56 = .ok (.iload_n 3, 1) := by decide +kernel
theorem dX9_passOn_57 : decode cX9_passOn 57 = .ok (.iadd, 1) := by decide +kernel
theorem dX9_passOn_58 : decode cX9_passOn 58 = .ok (.iaload, 1) := by decide +kernel
theorem dX9_passOn_59 : decode cX9_passOn 59 = .ok (.iconst 5, 1) := by decide +kernel
theorem dX9_passOn_60 : decode cX9_passOn 60 = .ok (.if_icmp .ne 14, 3) := by decide +kernel
theorem dX9_passOn_63 : decode cX9_passOn 63 = .ok (.iload 4, 2) := by decide +kernel
theorem dX9_passOn_65 : decode cX9_passOn 65 = .ok (.bipush 40, 2) := by decide +kernel
theorem dX9_passOn_67 : decode cX9_passOn 67 = .ok (.if_icmp .ge 7, 3) := by decide +kernel
theorem dX9_passOn_70 : decode cX9_passOn 70 = .ok (.iconst 1, 1) := by decide +kernel
theorem dX9_passOn_71 : decode cX9_passOn 71 = .ok (.goto 4, 3) := by decide +kernel
theorem dX9_passOn_74 : decode cX9_passOn 74 = .ok (.iconst 0, 1) := by decide +kernel
theorem dX9_passOn_75 : decode cX9_passOn 75 = .ok (.iadd, 1) := by decide +kernel
theorem dX9_passOn_76 : decode cX9_passOn 76 = .ok (.istore 4, 2) := by decide +kernel
theorem dX9_passOn_78 : decode cX9_passOn 78 = .ok (.aload_n 1, 1) := by decide +kernel
theorem dX9_passOn_79 : decode cX9_passOn 79 = .ok (.bipush 10, 2) := by decide +kernel
theorem dX9_passOn_81 : decode cX9_passOn 81 = .ok (.iload_n 3, 1) := by decide +kernel
theorem dX9_passOn_82 : decode cX9_passOn 82 = .ok (.iadd, 1) := by decide +kernel
theorem dX9_passOn_83 : decode cX9_passOn 83 = .ok (.iload 4, 2) := by decide +kernel
theorem dX9_passOn_85 : decode cX9_passOn 85 = .ok (.ifCond .ge 7, 3) := by decide +kernel
theorem dX9_passOn_88 : decode cX9_passOn 88 = .ok (.iconst 0, 1) := by decide +kernel
theorem dX9_passOn_89 : decode cX9_passOn 89 = .ok (.goto 5, 3) := by decide +kernel
theorem dX9_passOn_92 : decode cX9_passOn 92 = .ok (.iload 4, 2) := by decide +kernel
theorem dX9_passOn_94 : decode cX9_passOn 94 = .ok (.iastore, 1) := by decide +kernel
theorem dX9_passOn_95 : decode cX9_passOn 95 = .ok (.aload_n 1, 1) := by decide +kernel
theorem dX9_passOn_96 : decode cX9_passOn 96 = .ok (.iconst 2, 1) := by decide +kernel
theorem dX9_passOn_97 : decode cX9_passOn 97 = .ok (.iload_n 3, 1) := by decide +kernel
theorem dX9_passOn_98 : decode cX9_passOn 98 = .ok (.iadd, 1) := by decide +kernel
theorem dX9_passOn_99 : decode cX9_passOn 99 = .ok (.iload 4, 2) := by decide +kernel
theorem dX9_passOn_101 : decode cX9_passOn 101 = .ok (.ifCond .gt 8, 3) := by decide +kernel
theorem dX9_passOn_104 : decode cX9_passOn 104 = .ok (.bipush 7, 2) := by decide +kernel
theorem dX9_passOn_106 : decode cX9_passOn 106 = .ok (.goto 8, 3) := by decide +kernel
theorem dX9_passOn_109 : decode cX9_passOn 109 = .ok (.aload_n 1, 1) := by decide +kernel
theorem dX9_passOn_110 : decode cX9_passOn 110 = .ok (.iconst 2, 1) := by decide +kernel
theorem dX9_passOn_111 : decode cX9_passOn 111 = .ok (.iload_n 3, 1) := by decide +kernel
theorem dX9_passOn_112 : decode cX9_passOn 112 = .ok (.iadd, 1) := by decide +kernel
theorem dX9_passOn_113 : decode cX9_passOn 113 = .ok (.iaload, 1) := by decide +kernel
theorem dX9_passOn_114 : decode cX9_passOn 114 = .ok (.iastore, 1) := by decide +kernel
theorem dX9_passOn_115 : decode cX9_passOn 115 = .ok (.iinc 3 1, 3) := by decide +kernel
theorem dX9_passOn_118 : decode cX9_passOn 118 = .ok (.goto (-110), 3) := by decide +kernel
theorem dX9_passOn_121 : decode cX9_passOn 121 = .ok (.aload_n 1, 1) := by decide +kernel
theorem dX9_passOn_122 : decode cX9_passOn 122 = .ok (.iconst 1, 1) := by decide +kernel
theorem dX9_passOn_123 : decode cX9_passOn 123 = .ok (.iaload, 1) := by decide +kernel
theorem dX9_passOn_124 : decode cX9_passOn 124 = .ok (.iload_n 2, 1) := by decide +kernel
theorem dX9_passOn_125 : decode cX9_passOn 125 = .ok (.ifCond .eq 7, 3) := by decide +kernel
theorem dX9_passOn_128 : decode cX9_passOn 128 = .ok (.iconst 1, 1) := by decide +kernel
theorem dX9_passOn_129 : decode cX9_passOn 129 = .ok (.goto 4, 3) := by decide +kernel
theorem dX9_passOn_132 : decode cX9_passOn 132 = .ok (.iconst (-1), 1) := by decide +kernel
theorem dX9_passOn_133 : decode cX9_passOn 133 = .ok (.iadd, 1) := by decide +kernel
theorem dX9_passOn_134 : decode cX9_passOn 134 = .ok (.istore_n 3, 1) := by decide +kernel
theorem dX9_passOn_135 : decode cX9_passOn 135 = .ok (.aload_n 1, 1) := by decide +kernel
theorem dX9_passOn_136 : decode cX9_passOn 136 = .ok (.iconst 1, 1) := by decide +kernel
theorem dX9_passOn_137 : decode cX9_passOn 137 = .ok (.iload_n 3, 1) := by decide +kernel
theorem dX9_passOn_138 : decode cX9_passOn 138 = .ok (.ifCond .ge 7, 3) := by decide +kernel
theorem dX9_passOn_141 : decode cX9_passOn 141 = .ok (.iconst 0, 1) := by decide +kernel
theorem dX9_passOn_142 : decode cX9_passOn 142 = .ok (.goto 23, 3) := by decide +kernel
theorem dX9_passOn_145 : decode cX9_passOn 145 = .ok (.iload_n 3, 1) := by decide +kernel
theorem dX9_passOn_146 : decode cX9_passOn 146 = .ok (.aload_n 0, 1) := by decide +kernel
theorem dX9_passOn_147 : decode cX9_passOn 147 = .ok (.getfield 20, 3) := by decide +kernel
theorem dX9_passOn_150 : decode cX9_passOn 150 = .ok (.iconst 1, 1) := by decide +kernel
theorem dX9_passOn_151 : decode cX9_passOn 151 = .ok (.iaload, 1) := by decide +kernel
theorem dX9_passOn_152 : decode cX9_passOn 152 = .ok (.if_icmp .le 12, 3) := by decide +kernel
theorem dX9_passOn_155 : decode cX9_passOn 155 = .ok (.aload_n 0, 1) := by decide +kernel
theorem dX9_passOn_156 : decode cX9_passOn 156 = .ok (.getfield 20, 3) := by decide +kernel
theorem dX9_passOn_159 : decode cX9_passOn 159 = .ok (.iconst 1, 1) := by decide +kernel
theorem dX9_passOn_160 : decode cX9_passOn 160 = .ok (.iaload, 1) := by decide +kernel
theorem dX9_passOn_161 : decode cX9_passOn 161 = .ok (.goto 4, 3) := by decide +kernel
theorem dX9_passOn_164 : decode cX9_passOn 164 = .ok (.iload_n 3, 1) := by decide +kernel
theorem dX9_passOn_165 : decode cX9_passOn 165 = .ok (.iastore, 1) := by decide +kernel
theorem dX9_passOn_166 : decode cX9_passOn 166 = .ok (.aload_n 1, 1) := by decide +kernel
theorem dX9_passOn_167 : decode cX9_passOn 167 = .ok (.iconst 0, 1) := by decide +kernel
theorem dX9_passOn_168 : decode cX9_passOn 168 = .ok (.dup2, 1) := by decide +kernel
theorem dX9_passOn_169 : decode cX9_passOn 169 = .ok (.iaload, 1) := by decide +kernel
theorem dX9_passOn_170 : decode cX9_passOn 170 = .ok (.iconst 1, 1) := by decide +kernel
theorem dX9_passOn_171 : decode cX9_passOn 171 = .ok (.iadd, 1) := by decide +kernel
theorem dX9_passOn_172 : decode cX9_passOn 172 = .ok (.iastore, 1) := by decide +kernel
theorem dX9_passOn_173 : decode cX9_passOn 173 = .ok (.aload_n 1, 1) := by decide +kernel
theorem dX9_passOn_174 : decode cX9_passOn 174 = .ok (.iconst 0, 1) := by decide +kernel
theorem dX9_passOn_175 : decode cX9_passOn 175 = .ok (.iaload, 1) := by decide +kernel
theorem dX9_passOn_176 : decode cX9_passOn 176 = .ok (.aload_n 0, 1) := by decide +kernel
theorem dX9_passOn_177 : decode cX9_passOn 177 = .ok (.getfield 20, 3) := by decide +kernel
theorem dX9_passOn_180 : decode cX9_passOn 180 = .ok (.iconst 2, 1) := by decide +kernel
theorem dX9_passOn_181 : decode cX9_passOn 181 = .ok (.iaload, 1) := by decide +kernel
theorem dX9_passOn_182 : decode cX9_passOn 182 = .ok (.irem, 1) := by decide +kernel
theorem dX9_passOn_183 : decode cX9_passOn 183 = .ok (.ifCond .ne 54, 3) := by decide +kernel
theorem dX9_passOn_186 : decode cX9_passOn 186 = .ok (.iconst 0, 1) := by decide +kernel
theorem dX9_passOn_187 : decode cX9_passOn 187 = .ok (.istore 4, 2) := by decide +kernel
theorem dX9_passOn_189 : decode cX9_passOn 189 = .ok (.iload 4, 2) := by decide +kernel
theorem dX9_passOn_191 : decode cX9_passOn 191 = .ok (.aload_n 0, 1) := by decide +kernel
theorem dX9_passOn_192 : decode cX9_passOn 192 = .ok (.getfield 17, 3) := by decide +kernel
theorem dX9_passOn_195 : decode cX9_passOn 195 = .ok (.iconst 0, 1) := by decide +kernel
theorem dX9_passOn_196 : decode cX9_passOn 196 = .ok (.iaload, 1) := by decide +kernel
theorem dX9_passOn_197 : decode cX9_passOn 197 = .ok (.if_icmp .ge 36, 3) := by decide +kernel
theorem dX9_passOn_200 : decode cX9_passOn 200 = .ok (.aload_n 1, 1) := by decide +kernel
theorem dX9_passOn_201 : decode cX9_passOn 201 = .ok (.iconst 2, 1) := by decide +kernel
theorem dX9_passOn_202 : decode cX9_passOn 202 = .ok (.iload 4, 2) := by decide +kernel
theorem dX9_passOn_204 : decode cX9_passOn 204 = .ok (.iadd, 1) := by decide +kernel
theorem dX9_passOn_205 : decode cX9_passOn 205 = .ok (.aload_n 1, 1) := by decide +kernel
theorem dX9_passOn_206 : decode cX9_passOn 206 = .ok (.iconst 2, 1) := by decide +kernel
theorem dX9_passOn_207 : decode cX9_passOn 207 = .ok (.iload 4, 2) := by decide +kernel
theorem dX9_passOn_209 : decode cX9_passOn 209 = .ok (.iadd, 1) := by decide +kernel
theorem dX9_passOn_210 : decode cX9_passOn 210 = .ok (.iaload, 1) := by decide +kernel
theorem dX9_passOn_211 : decode cX9_passOn 211 = .ok (.iconst 5, 1) := by decide +kernel
theorem dX9_passOn_212 : decode cX9_passOn 212 = .ok (.if_icmp .ne 8, 3) := by decide +kernel
theorem dX9_passOn_215 : decode cX9_passOn 215 = .ok (.bipush 6, 2) := by decide +kernel
theorem dX9_passOn_217 : decode cX9_passOn 217 = .ok (.goto 9, 3) := by decide +kernel
theorem dX9_passOn_220 : decode cX9_passOn 220 = .ok (.aload_n 1, 1) := by decide +kernel
theorem dX9_passOn_221 : decode cX9_passOn 221 = .ok (.iconst 2, 1) := by decide +kernel
theorem dX9_passOn_222 : decode cX9_passOn 222 = .ok (.iload 4, 2) := by decide +kernel
theorem dX9_passOn_224 : decode cX9_passOn 224 = .ok (.iadd, 1) := by decide +kernel
theorem dX9_passOn_225 : decode cX9_passOn 225 = .ok (.iaload, 1) := by decide +kernel
theorem dX9_passOn_226 : decode cX9_passOn 226 = .ok (.iastore, 1) := by decide +kernel
theorem dX9_passOn_227 : decode cX9_passOn 227 = .ok (.iinc 4 1, 3) := by decide +kernel
theorem dX9_passOn_230 : decode cX9_passOn 230 = .ok (.goto (-41), 3) := by decide +kernel
theorem dX9_passOn_233 : decode cX9_passOn 233 = .ok (.aload_n 1, 1) := by decide +kernel
theorem dX9_passOn_234 : decode cX9_passOn 234 = .ok (.iconst 1, 1) := by decide +kernel
theorem dX9_passOn_235 : decode cX9_passOn 235 = .ok (.iconst 0, 1) := by decide +kernel
theorem dX9_passOn_236 : decode cX9_passOn 236 = .ok (.iastore, 1) := by decide +kernel
theorem dX9_passOn_237 : decode cX9_passOn 237 = .ok (.return_, 1) := by decide +kernel
def f_M_passOn_189 (N nx : Nat) (P : Ft) (a0 : Nat) (a1 : Nat) (rec189 : Dt → Int32 → Option Dt) (D : Dt) (i4 : Int32) : Option Dt :=
  nn (P a0 3) fun q14 =>
  if ab nx q14 3 0 = true then
  if D q14 (0 : Int32).toNatClampNeg ≤ i4 then
    if ab nx a1 3 1 = true then
    pas (upd2 D a1 (1 : Int32).toNatClampNeg 0) fun D16 =>
    some D16
    else none
  else
    if ab nx a1 3 (2 + i4) = true then
    if D a1 (2 + i4).toNatClampNeg = 5 then
      if ab nx a1 3 (2 + i4) = true then
      pas (upd2 D a1 (2 + i4).toNatClampNeg 6) fun D20 =>
      rec189 D20 (i4 + 1)
      else none
    else
      if ab nx a1 3 (2 + i4) = true then
      if ab nx a1 3 (2 + i4) = true then
      pas (upd2 D a1 (2 + i4).toNatClampNeg (D a1 (2 + i4).toNatClampNeg)) fun D19 =>
      rec189 D19 (i4 + 1)
      else none
      else none
    else none
  else none
def f_M_passOn_165 (N nx : Nat) (D : Dt) (P : Ft) (a0 : Nat) (a1 : Nat) (s0 : Nat) (s1 : Int32) (s2 : Int32) : Option Dt :=
  if ab nx s0 3 s1 = true then
  pas (upd2 D s0 s1.toNatClampNeg s2) fun D7 =>
  if ab nx a1 3 0 = true then
  if ab nx a1 3 0 = true then
  pas (upd2 D7 a1 (0 : Int32).toNatClampNeg ((D7 a1 (0 : Int32).toNatClampNeg) + 1)) fun D9 =>
  if ab nx a1 3 0 = true then
  nn (P a0 4) fun q11 =>
  if ab nx q11 3 2 = true then
  if D9 q11 (2 : Int32).toNatClampNeg = 0 then none else
  if (D9 a1 (0 : Int32).toNatClampNeg) - (D9 a1 (0 : Int32).toNatClampNeg) / (D9 q11 (2 : Int32).toNatClampNeg) * (D9 q11 (2 : Int32).toNatClampNeg) = 0 then
    wk2 N (f_M_passOn_189 N nx P a0 a1) D9 0
  else
    some D9
  else none
  else none
  else none
  else none
  else none
def f_M_passOn_133 (N nx : Nat) (D : Dt) (P : Ft) (a0 : Nat) (a1 : Nat) (s0 : Int32) (s1 : Int32) : Option Dt :=
  if 0 ≤ s0 + s1 then
    nn (P a0 4) fun q5 =>
    if ab nx q5 3 1 = true then
    if s0 + s1 ≤ D q5 (1 : Int32).toNatClampNeg then
      f_M_passOn_165 N nx D P a0 a1 a1 1 (s0 + s1)
    else
      if ab nx q5 3 1 = true then
      f_M_passOn_165 N nx D P a0 a1 a1 1 (D q5 (1 : Int32).toNatClampNeg)
      else none
    else none
  else
    f_M_passOn_165 N nx D P a0 a1 a1 1 0
def f_M_passOn_94 (N nx : Nat) (rec8 : Dt → Int32 → Option Dt) (D : Dt) (P : Ft) (a0 : Nat) (a1 : Nat) (i2 : Int32) (i3 : Int32) (i4 : Int32) (s0 : Nat) (s1 : Int32) (s2 : Int32) : Option Dt :=
  if ab nx s0 3 s1 = true then
  pas (upd2 D s0 s1.toNatClampNeg s2) fun D34 =>
  if 0 < i4 then
    if ab nx a1 3 (2 + i3) = true then
    if ab nx a1 3 (2 + i3) = true then
    pas (upd2 D34 a1 (2 + i3).toNatClampNeg (D34 a1 (2 + i3).toNatClampNeg)) fun D36 =>
    rec8 D36 (i3 + 1)
    else none
    else none
  else
    if ab nx a1 3 (2 + i3) = true then
    pas (upd2 D34 a1 (2 + i3).toNatClampNeg 7) fun D37 =>
    rec8 D37 (i3 + 1)
    else none
  else none
def f_M_passOn_75 (N nx : Nat) (rec8 : Dt → Int32 → Option Dt) (D : Dt) (P : Ft) (a0 : Nat) (a1 : Nat) (i2 : Int32) (i3 : Int32) (s0 : Int32) (s1 : Int32) : Option Dt :=
  if 0 ≤ s0 + s1 then
    f_M_passOn_94 N nx rec8 D P a0 a1 i2 i3 (s0 + s1) a1 (10 + i3) (s0 + s1)
  else
    f_M_passOn_94 N nx rec8 D P a0 a1 i2 i3 (s0 + s1) a1 (10 + i3) 0
def f_M_passOn_8 (N nx : Nat) (P : Ft) (a0 : Nat) (a1 : Nat) (i2 : Int32) (rec8 : Dt → Int32 → Option Dt) (D : Dt) (i3 : Int32) : Option Dt :=
  nn (P a0 3) fun q2 =>
  if ab nx q2 3 0 = true then
  if D q2 (0 : Int32).toNatClampNeg ≤ i3 then
    if ab nx a1 3 1 = true then
    if i2 = 0 then
      f_M_passOn_133 N nx D P a0 a1 (D a1 (1 : Int32).toNatClampNeg) (-1)
    else
      f_M_passOn_133 N nx D P a0 a1 (D a1 (1 : Int32).toNatClampNeg) 1
    else none
  else
    if ab nx a1 3 (2 + i3) = true then
    if 6 ≤ D a1 (2 + i3).toNatClampNeg then
      rec8 D (i3 + 1)
    else
      if ab nx a1 3 (10 + i3) = true then
      nn (P a0 7) fun q30 =>
      if ab nx q30 3 i3 = true then
      if ab nx a1 3 0 = true then
      (f_M_grown N nx D P (D a1 (10 + i3).toNatClampNeg) (D q30 i3.toNatClampNeg) (D a1 (0 : Int32).toNatClampNeg)).bind fun z33 =>
      if i2 = 0 then
        f_M_passOn_75 N nx rec8 D P a0 a1 i2 i3 z33 0
      else
        if ab nx a1 3 (2 + i3) = true then
        if D a1 (2 + i3).toNatClampNeg = 5 then
          if 40 ≤ z33 then
            f_M_passOn_75 N nx rec8 D P a0 a1 i2 i3 z33 0
          else
            f_M_passOn_75 N nx rec8 D P a0 a1 i2 i3 z33 1
        else
          f_M_passOn_75 N nx rec8 D P a0 a1 i2 i3 z33 0
        else none
      else none
      else none
      else none
    else none
  else none
def f_M_passOn (N nx : Nat) (D : Dt) (P : Ft) (a0 : Nat) (a1 : Nat) : Option Dt :=
  if kd nx a0 = 9 then
  (f_M_isFull N nx D P a0 a1).bind fun z1 =>
  wk2 N (f_M_passOn_8 N nx P a0 a1 z1) D 0
  else none
theorem m_M_passOn : MV yX9_passOn cX9_passOn 5 none 1 := ⟨mT 1096 (by decide +kernel) rfl, mT 1095 (by decide +kernel) rfl, mT 41 (by decide +kernel) rfl, mT 68 (by decide +kernel) rfl, by decide +kernel, by decide +kernel, by decide +kernel⟩
set_option maxHeartbeats 4000000 in
set_option maxRecDepth 100000 in
theorem c_M_passOn (l : Launch) (cx : Cx) (nx N : Nat) (D : Dt) (P : Ft) (a0 : Nat) (a1 : Nat) (z : Dt) (h : f_M_passOn N nx D P a0 a1 = some z) : Ct l cx yX9_passOn cX9_passOn 5 none 3 [.ref (cx.2.2 + a0), .ref (cx.2.2 + a1)] D P nx none z P := by
  refine x_met0 (by decide) (Nat.le_of_ble_eq_true rfl) ?_
  intro p e s m args below meth c X
  have X : XC p s m args meth c cx cX9_passOn 5 none "HeartPinsModel" "passOn" := X
  refine XW.sub (lv' := [(0, .ref (cx.2.2 + a0)), (1, .ref (cx.2.2 + a1))]) [0, 1] rfl ?_
  unfold f_M_passOn at h
  obtain ⟨hk0, h⟩ := grd h
  have hL189 : ∀ (n : Nat) (D : Dt) (i4 : Int32), wk2 n (f_M_passOn_189 N nx P a0 a1) D i4 = some z → XW p l e (rmk 3) s m args below meth c (MQ below (Qx cx none z P nx) args s 0 0 (AA cx)) cx 5 D P nx 0 0 189 [(0, .ref (cx.2.2 + a0)), (1, .ref (cx.2.2 + a1)), (4, .int i4)] [] := by
    intro n
    induction n with
    | zero => intro D i4 h; exact (nonz h).elim
    | succ n ih189 =>
      intro D i4 h
      have h : f_M_passOn_189 N nx P a0 a1 (wk2 n (f_M_passOn_189 N nx P a0 a1)) D i4 = some z := h
      generalize wk2 n (f_M_passOn_189 N nx P a0 a1) = rec189 at ih189 h
      unfold f_M_passOn_189 at h
      refine x_iload (pc := 189) X dX9_passOn_189 2 rfl ?_
      refine x_aload_n (pc := 191) X dX9_passOn_191 (i := 0) rfl 0 rfl ?_
      obtain ⟨q14, e14, h⟩ := nns h
      refine x_getr (ci := 9) (k := 3) (n := 26) (C := RX9) (T := TX9) (pc := 192) X dX9_passOn_192 hk0 rfl (by decide) w_892 rfl e14 ?_
      refine x_iconst (v := 0) (pc := 195) X dX9_passOn_195 (by decide) ?_
      obtain ⟨g15, h⟩ := grd h
      refine x_iald (pc := 196) X dX9_passOn_196 g15 ?_
      refine x_icmp_ge (tgt := 233) (pc := 197) X dX9_passOn_197 (by decide) (fun c22 => ?_) (fun c22 => ?_)
      · have h := ite_t c22 h
        refine x_aload_n (pc := 233) X dX9_passOn_233 (i := 1) rfl 1 rfl ?_
        refine x_iconst (v := 1) (pc := 234) X dX9_passOn_234 (by decide) ?_
        refine x_iconst (v := 0) (pc := 235) X dX9_passOn_235 (by decide) ?_
        obtain ⟨g16, h⟩ := grd h
        obtain ⟨D16, w16, h⟩ := pass h
        refine x_iast (D' := D16) (pc := 236) X dX9_passOn_236 g16 w16 ?_
        obtain rfl := Option.some.inj h
        exact x_vret (pc := 237) X dX9_passOn_237
      · have h := ite_f c22 h
        refine x_aload_n (pc := 200) X dX9_passOn_200 (i := 1) rfl 1 rfl ?_
        refine x_iconst (v := 2) (pc := 201) X dX9_passOn_201 (by decide) ?_
        refine x_iload (pc := 202) X dX9_passOn_202 2 rfl ?_
        refine x_iadd (pc := 204) X dX9_passOn_204 ?_
        refine x_aload_n (pc := 205) X dX9_passOn_205 (i := 1) rfl 1 rfl ?_
        refine x_iconst (v := 2) (pc := 206) X dX9_passOn_206 (by decide) ?_
        refine x_iload (pc := 207) X dX9_passOn_207 2 rfl ?_
        refine x_iadd (pc := 209) X dX9_passOn_209 ?_
        obtain ⟨g17, h⟩ := grd h
        refine x_iald (pc := 210) X dX9_passOn_210 g17 ?_
        refine x_iconst (v := 5) (pc := 211) X dX9_passOn_211 (by decide) ?_
        refine x_icmp_ne (tgt := 220) (pc := 212) X dX9_passOn_212 (by decide) (fun c21 => ?_) (fun c21 => ?_)
        · have h := ite_f c21 h
          refine x_aload_n (pc := 220) X dX9_passOn_220 (i := 1) rfl 1 rfl ?_
          refine x_iconst (v := 2) (pc := 221) X dX9_passOn_221 (by decide) ?_
          refine x_iload (pc := 222) X dX9_passOn_222 2 rfl ?_
          refine x_iadd (pc := 224) X dX9_passOn_224 ?_
          obtain ⟨g18, h⟩ := grd h
          refine x_iald (pc := 225) X dX9_passOn_225 g18 ?_
          obtain ⟨g19, h⟩ := grd h
          obtain ⟨D19, w19, h⟩ := pass h
          refine x_iast (D' := D19) (pc := 226) X dX9_passOn_226 g19 w19 ?_
          refine x_iinc (v := i4 + 1) (lv' := [(4, .int (i4 + 1)), (0, .ref (cx.2.2 + a0)), (1, .ref (cx.2.2 + a1))]) (pc := 227) X dX9_passOn_227 2 rfl rfl (by decide) rfl ?_
          refine x_goto (tgt := 189) (pc := 230) X dX9_passOn_230 (by decide) ?_
          exact XW.sub [1, 2, 0] rfl (ih189 _ _ h)
        · have h := ite_t c21 h
          refine x_bipush (v := 6) (pc := 215) X dX9_passOn_215 (by decide) ?_
          refine x_goto (tgt := 226) (pc := 217) X dX9_passOn_217 (by decide) ?_
          obtain ⟨g20, h⟩ := grd h
          obtain ⟨D20, w20, h⟩ := pass h
          refine x_iast (D' := D20) (pc := 226) X dX9_passOn_226 g20 w20 ?_
          refine x_iinc (v := i4 + 1) (lv' := [(4, .int (i4 + 1)), (0, .ref (cx.2.2 + a0)), (1, .ref (cx.2.2 + a1))]) (pc := 227) X dX9_passOn_227 2 rfl rfl (by decide) rfl ?_
          refine x_goto (tgt := 189) (pc := 230) X dX9_passOn_230 (by decide) ?_
          exact XW.sub [1, 2, 0] rfl (ih189 _ _ h)
  have hJ165 : ∀ (D : Dt) (s0 : Nat) (s1 : Int32) (s2 : Int32), f_M_passOn_165 N nx D P a0 a1 s0 s1 s2 = some z → XW p l e (rmk 3) s m args below meth c (MQ below (Qx cx none z P nx) args s 0 0 (AA cx)) cx 5 D P nx 0 0 165 [(0, .ref (cx.2.2 + a0)), (1, .ref (cx.2.2 + a1))] [.int s2, .int s1, .ref (cx.2.2 + s0)] := by
    intro D s0 s1 s2 h
    unfold f_M_passOn_165 at h
    obtain ⟨g7, h⟩ := grd h
    obtain ⟨D7, w7, h⟩ := pass h
    refine x_iast (D' := D7) (pc := 165) X dX9_passOn_165 g7 w7 ?_
    refine x_aload_n (pc := 166) X dX9_passOn_166 (i := 1) rfl 1 rfl ?_
    refine x_iconst (v := 0) (pc := 167) X dX9_passOn_167 (by decide) ?_
    refine x_dup2 (pc := 168) X dX9_passOn_168 rfl rfl ?_
    obtain ⟨g8, h⟩ := grd h
    refine x_iald (pc := 169) X dX9_passOn_169 g8 ?_
    refine x_iconst (v := 1) (pc := 170) X dX9_passOn_170 (by decide) ?_
    refine x_iadd (pc := 171) X dX9_passOn_171 ?_
    obtain ⟨g9, h⟩ := grd h
    obtain ⟨D9, w9, h⟩ := pass h
    refine x_iast (D' := D9) (pc := 172) X dX9_passOn_172 g9 w9 ?_
    refine x_aload_n (pc := 173) X dX9_passOn_173 (i := 1) rfl 1 rfl ?_
    refine x_iconst (v := 0) (pc := 174) X dX9_passOn_174 (by decide) ?_
    obtain ⟨g10, h⟩ := grd h
    refine x_iald (pc := 175) X dX9_passOn_175 g10 ?_
    refine x_aload_n (pc := 176) X dX9_passOn_176 (i := 0) rfl 0 rfl ?_
    obtain ⟨q11, e11, h⟩ := nns h
    refine x_getr (ci := 9) (k := 4) (n := 26) (C := RX9) (T := TX9) (pc := 177) X dX9_passOn_177 hk0 rfl (by decide) w_893 rfl e11 ?_
    refine x_iconst (v := 2) (pc := 180) X dX9_passOn_180 (by decide) ?_
    obtain ⟨g12, h⟩ := grd h
    refine x_iald (pc := 181) X dX9_passOn_181 g12 ?_
    obtain ⟨k13, h⟩ := grdn h
    refine x_irem (pc := 182) X dX9_passOn_182 k13 ?_
    refine x_if_ne (tgt := 237) (pc := 183) X dX9_passOn_183 (by decide) (fun c23 => ?_) (fun c23 => ?_)
    · have h := ite_f c23 h
      obtain rfl := Option.some.inj h
      exact x_vret (pc := 237) X dX9_passOn_237
    · have h := ite_t c23 h
      refine x_iconst (v := 0) (pc := 186) X dX9_passOn_186 (by decide) ?_
      refine x_istore (lv' := [(4, .int 0), (0, .ref (cx.2.2 + a0)), (1, .ref (cx.2.2 + a1))]) (pc := 187) X dX9_passOn_187 (by decide) rfl ?_
      exact XW.sub [1, 2, 0] rfl (hL189 _ _ _ h)
  have hJ133 : ∀ (D : Dt) (s0 : Int32) (s1 : Int32), f_M_passOn_133 N nx D P a0 a1 s0 s1 = some z → XW p l e (rmk 3) s m args below meth c (MQ below (Qx cx none z P nx) args s 0 0 (AA cx)) cx 5 D P nx 0 0 133 [(0, .ref (cx.2.2 + a0)), (1, .ref (cx.2.2 + a1))] [.int s1, .int s0] := by
    intro D s0 s1 h
    unfold f_M_passOn_133 at h
    refine x_iadd (pc := 133) X dX9_passOn_133 ?_
    refine x_istore_n (lv' := [(3, .int (s0 + s1)), (0, .ref (cx.2.2 + a0)), (1, .ref (cx.2.2 + a1))]) (pc := 134) X dX9_passOn_134 (i := 3) rfl (by decide) rfl ?_
    refine x_aload_n (pc := 135) X dX9_passOn_135 (i := 1) rfl 2 rfl ?_
    refine x_iconst (v := 1) (pc := 136) X dX9_passOn_136 (by decide) ?_
    refine x_iload_n (pc := 137) X dX9_passOn_137 (i := 3) rfl 0 rfl ?_
    refine x_if_ge (tgt := 145) (pc := 138) X dX9_passOn_138 (by decide) (fun c26 => ?_) (fun c26 => ?_)
    · have h := ite_t c26 h
      refine x_iload_n (pc := 145) X dX9_passOn_145 (i := 3) rfl 0 rfl ?_
      refine x_aload_n (pc := 146) X dX9_passOn_146 (i := 0) rfl 1 rfl ?_
      obtain ⟨q5, e5, h⟩ := nns h
      refine x_getr (ci := 9) (k := 4) (n := 26) (C := RX9) (T := TX9) (pc := 147) X dX9_passOn_147 hk0 rfl (by decide) w_893 rfl e5 ?_
      refine x_iconst (v := 1) (pc := 150) X dX9_passOn_150 (by decide) ?_
      obtain ⟨g6, h⟩ := grd h
      refine x_iald (pc := 151) X dX9_passOn_151 g6 ?_
      refine x_icmp_le (tgt := 164) (pc := 152) X dX9_passOn_152 (by decide) (fun c25 => ?_) (fun c25 => ?_)
      · have h := ite_t c25 h
        refine x_iload_n (pc := 164) X dX9_passOn_164 (i := 3) rfl 0 rfl ?_
        exact XW.sub [1, 2] rfl (hJ165 _ _ _ _ h)
      · have h := ite_f c25 h
        refine x_aload_n (pc := 155) X dX9_passOn_155 (i := 0) rfl 1 rfl ?_
        refine x_getr (ci := 9) (k := 4) (n := 26) (C := RX9) (T := TX9) (pc := 156) X dX9_passOn_156 hk0 rfl (by decide) w_893 rfl e5 ?_
        refine x_iconst (v := 1) (pc := 159) X dX9_passOn_159 (by decide) ?_
        obtain ⟨g24, h⟩ := grd h
        refine x_iald (pc := 160) X dX9_passOn_160 g24 ?_
        refine x_goto (tgt := 165) (pc := 161) X dX9_passOn_161 (by decide) ?_
        exact XW.sub [1, 2] rfl (hJ165 _ _ _ _ h)
    · have h := ite_f c26 h
      refine x_iconst (v := 0) (pc := 141) X dX9_passOn_141 (by decide) ?_
      refine x_goto (tgt := 165) (pc := 142) X dX9_passOn_142 (by decide) ?_
      exact XW.sub [1, 2] rfl (hJ165 _ _ _ _ h)
  have hL8 : ∀ (i2 : Int32) (n : Nat) (D : Dt) (i3 : Int32), wk2 n (f_M_passOn_8 N nx P a0 a1 i2) D i3 = some z → XW p l e (rmk 3) s m args below meth c (MQ below (Qx cx none z P nx) args s 0 0 (AA cx)) cx 5 D P nx 0 0 8 [(0, .ref (cx.2.2 + a0)), (1, .ref (cx.2.2 + a1)), (2, .int i2), (3, .int i3)] [] := by
    intro i2 n
    induction n with
    | zero => intro D i3 h; exact (nonz h).elim
    | succ n ih8 =>
      intro D i3 h
      have h : f_M_passOn_8 N nx P a0 a1 i2 (wk2 n (f_M_passOn_8 N nx P a0 a1 i2)) D i3 = some z := h
      generalize wk2 n (f_M_passOn_8 N nx P a0 a1 i2) = rec8 at ih8 h
      unfold f_M_passOn_8 at h
      have hJ94 : ∀ (D : Dt) (i3 : Int32) (i4 : Int32) (s0 : Nat) (s1 : Int32) (s2 : Int32), f_M_passOn_94 N nx rec8 D P a0 a1 i2 i3 i4 s0 s1 s2 = some z → XW p l e (rmk 3) s m args below meth c (MQ below (Qx cx none z P nx) args s 0 0 (AA cx)) cx 5 D P nx 0 0 94 [(0, .ref (cx.2.2 + a0)), (1, .ref (cx.2.2 + a1)), (2, .int i2), (3, .int i3), (4, .int i4)] [.int s2, .int s1, .ref (cx.2.2 + s0)] := by
        intro D i3 i4 s0 s1 s2 h
        unfold f_M_passOn_94 at h
        obtain ⟨g34, h⟩ := grd h
        obtain ⟨D34, w34, h⟩ := pass h
        refine x_iast (D' := D34) (pc := 94) X dX9_passOn_94 g34 w34 ?_
        refine x_aload_n (pc := 95) X dX9_passOn_95 (i := 1) rfl 1 rfl ?_
        refine x_iconst (v := 2) (pc := 96) X dX9_passOn_96 (by decide) ?_
        refine x_iload_n (pc := 97) X dX9_passOn_97 (i := 3) rfl 3 rfl ?_
        refine x_iadd (pc := 98) X dX9_passOn_98 ?_
        refine x_iload (pc := 99) X dX9_passOn_99 4 rfl ?_
        refine x_if_gt (tgt := 109) (pc := 101) X dX9_passOn_101 (by decide) (fun c38 => ?_) (fun c38 => ?_)
        · have h := ite_t c38 h
          refine x_aload_n (pc := 109) X dX9_passOn_109 (i := 1) rfl 1 rfl ?_
          refine x_iconst (v := 2) (pc := 110) X dX9_passOn_110 (by decide) ?_
          refine x_iload_n (pc := 111) X dX9_passOn_111 (i := 3) rfl 3 rfl ?_
          refine x_iadd (pc := 112) X dX9_passOn_112 ?_
          obtain ⟨g35, h⟩ := grd h
          refine x_iald (pc := 113) X dX9_passOn_113 g35 ?_
          obtain ⟨g36, h⟩ := grd h
          obtain ⟨D36, w36, h⟩ := pass h
          refine x_iast (D' := D36) (pc := 114) X dX9_passOn_114 g36 w36 ?_
          refine x_iinc (v := i3 + 1) (lv' := [(3, .int (i3 + 1)), (0, .ref (cx.2.2 + a0)), (1, .ref (cx.2.2 + a1)), (2, .int i2), (4, .int i4)]) (pc := 115) X dX9_passOn_115 3 rfl rfl (by decide) rfl ?_
          refine x_goto (tgt := 8) (pc := 118) X dX9_passOn_118 (by decide) ?_
          exact XW.sub [1, 2, 3, 0] rfl (ih8 _ _ h)
        · have h := ite_f c38 h
          refine x_bipush (v := 7) (pc := 104) X dX9_passOn_104 (by decide) ?_
          refine x_goto (tgt := 114) (pc := 106) X dX9_passOn_106 (by decide) ?_
          obtain ⟨g37, h⟩ := grd h
          obtain ⟨D37, w37, h⟩ := pass h
          refine x_iast (D' := D37) (pc := 114) X dX9_passOn_114 g37 w37 ?_
          refine x_iinc (v := i3 + 1) (lv' := [(3, .int (i3 + 1)), (0, .ref (cx.2.2 + a0)), (1, .ref (cx.2.2 + a1)), (2, .int i2), (4, .int i4)]) (pc := 115) X dX9_passOn_115 3 rfl rfl (by decide) rfl ?_
          refine x_goto (tgt := 8) (pc := 118) X dX9_passOn_118 (by decide) ?_
          exact XW.sub [1, 2, 3, 0] rfl (ih8 _ _ h)
      have hJ75 : ∀ (D : Dt) (i3 : Int32) (s0 : Int32) (s1 : Int32), f_M_passOn_75 N nx rec8 D P a0 a1 i2 i3 s0 s1 = some z → XW p l e (rmk 3) s m args below meth c (MQ below (Qx cx none z P nx) args s 0 0 (AA cx)) cx 5 D P nx 0 0 75 [(0, .ref (cx.2.2 + a0)), (1, .ref (cx.2.2 + a1)), (2, .int i2), (3, .int i3)] [.int s1, .int s0] := by
        intro D i3 s0 s1 h
        unfold f_M_passOn_75 at h
        refine x_iadd (pc := 75) X dX9_passOn_75 ?_
        refine x_istore (lv' := [(4, .int (s0 + s1)), (0, .ref (cx.2.2 + a0)), (1, .ref (cx.2.2 + a1)), (2, .int i2), (3, .int i3)]) (pc := 76) X dX9_passOn_76 (by decide) rfl ?_
        refine x_aload_n (pc := 78) X dX9_passOn_78 (i := 1) rfl 2 rfl ?_
        refine x_bipush (v := 10) (pc := 79) X dX9_passOn_79 (by decide) ?_
        refine x_iload_n (pc := 81) X dX9_passOn_81 (i := 3) rfl 4 rfl ?_
        refine x_iadd (pc := 82) X dX9_passOn_82 ?_
        refine x_iload (pc := 83) X dX9_passOn_83 0 rfl ?_
        refine x_if_ge (tgt := 92) (pc := 85) X dX9_passOn_85 (by decide) (fun c39 => ?_) (fun c39 => ?_)
        · have h := ite_t c39 h
          refine x_iload (pc := 92) X dX9_passOn_92 0 rfl ?_
          exact XW.sub [1, 2, 3, 4, 0] rfl (hJ94 _ _ _ _ _ _ h)
        · have h := ite_f c39 h
          refine x_iconst (v := 0) (pc := 88) X dX9_passOn_88 (by decide) ?_
          refine x_goto (tgt := 94) (pc := 89) X dX9_passOn_89 (by decide) ?_
          exact XW.sub [1, 2, 3, 4, 0] rfl (hJ94 _ _ _ _ _ _ h)
      refine x_iload_n (pc := 8) X dX9_passOn_8 (i := 3) rfl 3 rfl ?_
      refine x_aload_n (pc := 9) X dX9_passOn_9 (i := 0) rfl 0 rfl ?_
      obtain ⟨q2, e2, h⟩ := nns h
      refine x_getr (ci := 9) (k := 3) (n := 26) (C := RX9) (T := TX9) (pc := 10) X dX9_passOn_10 hk0 rfl (by decide) w_892 rfl e2 ?_
      refine x_iconst (v := 0) (pc := 13) X dX9_passOn_13 (by decide) ?_
      obtain ⟨g3, h⟩ := grd h
      refine x_iald (pc := 14) X dX9_passOn_14 g3 ?_
      refine x_icmp_ge (tgt := 121) (pc := 15) X dX9_passOn_15 (by decide) (fun c45 => ?_) (fun c45 => ?_)
      · have h := ite_t c45 h
        refine x_aload_n (pc := 121) X dX9_passOn_121 (i := 1) rfl 1 rfl ?_
        refine x_iconst (v := 1) (pc := 122) X dX9_passOn_122 (by decide) ?_
        obtain ⟨g4, h⟩ := grd h
        refine x_iald (pc := 123) X dX9_passOn_123 g4 ?_
        refine x_iload_n (pc := 124) X dX9_passOn_124 (i := 2) rfl 2 rfl ?_
        refine x_if_eq (tgt := 132) (pc := 125) X dX9_passOn_125 (by decide) (fun c27 => ?_) (fun c27 => ?_)
        · have h := ite_t c27 h
          refine x_iconst (v := (-1)) (pc := 132) X dX9_passOn_132 (by decide) ?_
          exact XW.sub [0, 1] rfl (hJ133 _ _ _ h)
        · have h := ite_f c27 h
          refine x_iconst (v := 1) (pc := 128) X dX9_passOn_128 (by decide) ?_
          refine x_goto (tgt := 133) (pc := 129) X dX9_passOn_129 (by decide) ?_
          exact XW.sub [0, 1] rfl (hJ133 _ _ _ h)
      · have h := ite_f c45 h
        refine x_aload_n (pc := 18) X dX9_passOn_18 (i := 1) rfl 1 rfl ?_
        refine x_iconst (v := 2) (pc := 19) X dX9_passOn_19 (by decide) ?_
        refine x_iload_n (pc := 20) X dX9_passOn_20 (i := 3) rfl 3 rfl ?_
        refine x_iadd (pc := 21) X dX9_passOn_21 ?_
        obtain ⟨g28, h⟩ := grd h
        refine x_iald (pc := 22) X dX9_passOn_22 g28 ?_
        refine x_bipush (v := 6) (pc := 23) X dX9_passOn_23 (by decide) ?_
        refine x_icmp_ge (tgt := 115) (pc := 25) X dX9_passOn_25 (by decide) (fun c44 => ?_) (fun c44 => ?_)
        · have h := ite_t c44 h
          refine x_iinc (v := i3 + 1) (lv' := [(3, .int (i3 + 1)), (0, .ref (cx.2.2 + a0)), (1, .ref (cx.2.2 + a1)), (2, .int i2)]) (pc := 115) X dX9_passOn_115 3 rfl rfl (by decide) rfl ?_
          refine x_goto (tgt := 8) (pc := 118) X dX9_passOn_118 (by decide) ?_
          exact XW.sub [1, 2, 3, 0] rfl (ih8 _ _ h)
        · have h := ite_f c44 h
          refine x_aload_n (pc := 28) X dX9_passOn_28 (i := 1) rfl 1 rfl ?_
          refine x_bipush (v := 10) (pc := 29) X dX9_passOn_29 (by decide) ?_
          refine x_iload_n (pc := 31) X dX9_passOn_31 (i := 3) rfl 3 rfl ?_
          refine x_iadd (pc := 32) X dX9_passOn_32 ?_
          obtain ⟨g29, h⟩ := grd h
          refine x_iald (pc := 33) X dX9_passOn_33 g29 ?_
          refine x_aload_n (pc := 34) X dX9_passOn_34 (i := 0) rfl 0 rfl ?_
          obtain ⟨q30, e30, h⟩ := nns h
          refine x_getr (ci := 9) (k := 7) (n := 26) (C := RX9) (T := TX9) (pc := 35) X dX9_passOn_35 hk0 rfl (by decide) w_896 rfl e30 ?_
          refine x_iload_n (pc := 38) X dX9_passOn_38 (i := 3) rfl 3 rfl ?_
          obtain ⟨g31, h⟩ := grd h
          refine x_iald (pc := 39) X dX9_passOn_39 g31 ?_
          refine x_aload_n (pc := 40) X dX9_passOn_40 (i := 1) rfl 1 rfl ?_
          refine x_iconst (v := 0) (pc := 41) X dX9_passOn_41 (by decide) ?_
          obtain ⟨g32, h⟩ := grd h
          refine x_iald (pc := 42) X dX9_passOn_42 g32 ?_
          obtain ⟨z33, e33, h⟩ := bnds h
          refine x_callS (pc := 43) (As := [.int (D a1 (10 + i3).toNatClampNeg), .int (D q30 i3.toNatClampNeg), .int (D a1 (0 : Int32).toNatClampNeg)]) (st := []) (st' := [.int z33]) X (c_M_grown l cx nx N D P _ _ _ z33 e33) dX9_passOn_43 w_1097 m_M_grown rfl ⟨by decide, by decide⟩ ⟨Nat.zero_le _, Nat.zero_le _⟩ rfl (Nat.le_of_ble_eq_true rfl) rfl ?_
          refine x_istore (lv' := [(4, .int z33), (0, .ref (cx.2.2 + a0)), (1, .ref (cx.2.2 + a1)), (2, .int i2), (3, .int i3)]) (pc := 46) X dX9_passOn_46 (by decide) rfl ?_
          refine x_iload (pc := 48) X dX9_passOn_48 0 rfl ?_
          refine x_iload_n (pc := 50) X dX9_passOn_50 (i := 2) rfl 3 rfl ?_
          refine x_if_eq (tgt := 74) (pc := 51) X dX9_passOn_51 (by decide) (fun c43 => ?_) (fun c43 => ?_)
          · have h := ite_t c43 h
            refine x_iconst (v := 0) (pc := 74) X dX9_passOn_74 (by decide) ?_
            exact XW.sub [1, 2, 3, 4] rfl (hJ75 _ _ _ _ h)
          · have h := ite_f c43 h
            refine x_aload_n (pc := 54) X dX9_passOn_54 (i := 1) rfl 2 rfl ?_
            refine x_iconst (v := 2) (pc := 55) X dX9_passOn_55 (by decide) ?_
            refine x_iload_n (pc := 56) X dX9_passOn_56 (i := 3) rfl 4 rfl ?_
            refine x_iadd (pc := 57) X dX9_passOn_57 ?_
            obtain ⟨g40, h⟩ := grd h
            refine x_iald (pc := 58) X dX9_passOn_58 g40 ?_
            refine x_iconst (v := 5) (pc := 59) X dX9_passOn_59 (by decide) ?_
            refine x_icmp_ne (tgt := 74) (pc := 60) X dX9_passOn_60 (by decide) (fun c42 => ?_) (fun c42 => ?_)
            · have h := ite_f c42 h
              refine x_iconst (v := 0) (pc := 74) X dX9_passOn_74 (by decide) ?_
              exact XW.sub [1, 2, 3, 4] rfl (hJ75 _ _ _ _ h)
            · have h := ite_t c42 h
              refine x_iload (pc := 63) X dX9_passOn_63 0 rfl ?_
              refine x_bipush (v := 40) (pc := 65) X dX9_passOn_65 (by decide) ?_
              refine x_icmp_ge (tgt := 74) (pc := 67) X dX9_passOn_67 (by decide) (fun c41 => ?_) (fun c41 => ?_)
              · have h := ite_t c41 h
                refine x_iconst (v := 0) (pc := 74) X dX9_passOn_74 (by decide) ?_
                exact XW.sub [1, 2, 3, 4] rfl (hJ75 _ _ _ _ h)
              · have h := ite_f c41 h
                refine x_iconst (v := 1) (pc := 70) X dX9_passOn_70 (by decide) ?_
                refine x_goto (tgt := 75) (pc := 71) X dX9_passOn_71 (by decide) ?_
                exact XW.sub [1, 2, 3, 4] rfl (hJ75 _ _ _ _ h)
  refine x_aload_n (pc := 0) X dX9_passOn_0 (i := 0) rfl 0 rfl ?_
  refine x_aload_n (pc := 1) X dX9_passOn_1 (i := 1) rfl 1 rfl ?_
  obtain ⟨z1, e1, h⟩ := bnds h
  refine x_callV (pc := 2) (As := [.ref (cx.2.2 + a1)]) (st := []) (st' := [.int z1]) X (c_M_isFull l cx nx N D P _ _ z1 e1) dX9_passOn_2 w_1065 m_M_isFull rfl hk0 (ci := 9) rfl rfl ⟨by decide, by decide⟩ ⟨Nat.zero_le _, Nat.zero_le _⟩ rfl (Nat.le_of_ble_eq_true rfl) rfl ?_
  refine x_istore_n (lv' := [(2, .int z1), (0, .ref (cx.2.2 + a0)), (1, .ref (cx.2.2 + a1))]) (pc := 5) X dX9_passOn_5 (i := 2) rfl (by decide) rfl ?_
  refine x_iconst (v := 0) (pc := 6) X dX9_passOn_6 (by decide) ?_
  refine x_istore_n (lv' := [(3, .int 0), (2, .int z1), (0, .ref (cx.2.2 + a0)), (1, .ref (cx.2.2 + a1))]) (pc := 7) X dX9_passOn_7 (i := 3) rfl (by decide) rfl ?_
  exact XW.sub [2, 3, 1, 0] rfl (hL8 _ _ _ _ h)
theorem dX9_person_0 : decode cX9_person 0 = .ok (.aload_n 0, 1) := by decide +kernel
theorem dX9_person_1 : decode cX9_person 1 = .ok (.iload_n 1, 1) := by decide +kernel
theorem dX9_person_2 : decode cX9_person 2 = .ok (.invokevirtual 174, 3) := by decide +kernel
theorem dX9_person_5 : decode cX9_person 5 = .ok (.ifCond .ne 5, 3) := by decide +kernel
theorem dX9_person_8 : decode cX9_person 8 = .ok (.iconst (-1), 1) := by decide +kernel
theorem dX9_person_9 : decode cX9_person 9 = .ok (.ireturn, 1) := by decide +kernel
theorem dX9_person_10 : decode cX9_person 10 = .ok (.iload_n 2, 1) := by decide +kernel
theorem dX9_person_11 : decode cX9_person 11 = .ok (.tableswitch 74 0 3 #[29, 36, 46, 56], 29) := by decide +kernel
theorem dX9_person_40 : decode cX9_person 40 = .ok (.aload_n 0, 1) := by decide +kernel
theorem dX9_person_41 : decode cX9_person 41 = .ok (.getfield 23, 3) := by decide +kernel
theorem dX9_person_44 : decode cX9_person 44 = .ok (.iload_n 1, 1) := by decide +kernel
theorem dX9_person_45 : decode cX9_person 45 = .ok (.iaload, 1) := by decide +kernel
theorem dX9_person_46 : decode cX9_person 46 = .ok (.ireturn, 1) := by decide +kernel
theorem dX9_person_47 : decode cX9_person 47 = .ok (.aload_n 0, 1) := by decide +kernel
theorem dX9_person_48 : decode cX9_person 48 = .ok (.aload_n 0, 1) := by decide +kernel
theorem dX9_person_49 : decode cX9_person 49 = .ok (.getfield 35, 3) := by decide +kernel
theorem dX9_person_52 : decode cX9_person 52 = .ok (.iload_n 1, 1) := by decide +kernel
theorem dX9_person_53 : decode cX9_person 53 = .ok (.invokevirtual 160, 3) := by decide +kernel
theorem dX9_person_56 : decode cX9_person 56 = .ok (.ireturn, 1) := by decide +kernel
theorem dX9_person_57 : decode cX9_person 57 = .ok (.aload_n 0, 1) := by decide +kernel
theorem dX9_person_58 : decode cX9_person 58 = .ok (.aload_n 0, 1) := by decide +kernel
theorem dX9_person_59 : decode cX9_person 59 = .ok (.getfield 35, 3) := by decide +kernel
theorem dX9_person_62 : decode cX9_person 62 = .ok (.iload_n 1, 1) := by decide +kernel
theorem dX9_person_63 : decode cX9_person 63 = .ok (.invokevirtual 153, 3) := by decide +kernel
theorem dX9_person_66 : decode cX9_person 66 = .ok (.ireturn, 1) := by decide +kernel
theorem dX9_person_67 : decode cX9_person 67 = .ok (.aload_n 0, 1) := by decide +kernel
theorem dX9_person_68 : decode cX9_person 68 = .ok (.aload_n 0, 1) := by decide +kernel
theorem dX9_person_69 : decode cX9_person 69 = .ok (.getfield 35, 3) := by decide +kernel
theorem dX9_person_72 : decode cX9_person 72 = .ok (.iload_n 1, 1) := by decide +kernel
theorem dX9_person_73 : decode cX9_person 73 = .ok (.invokevirtual 163, 3) := by decide +kernel
theorem dX9_person_76 : decode cX9_person 76 = .ok (.ifCond .eq 7, 3) := by decide +kernel
theorem dX9_person_79 : decode cX9_person 79 = .ok (.iconst 1, 1) := by decide +kernel
theorem dX9_person_80 : decode cX9_person 80 = .ok (.goto 4, 3) := by decide +kernel
theorem dX9_person_83 : decode cX9_person 83 = .ok (.iconst 0, 1) := by decide +kernel
theorem dX9_person_84 : decode cX9_person 84 = .ok (.ireturn, 1) := by decide +kernel
theorem dX9_person_85 : decode cX9_person 85 = .ok (.iconst (-1), 1) := by decide +kernel
theorem dX9_person_86 : decode cX9_person 86 = .ok (.ireturn, 1) := by decide +kernel
def f_M_person (N nx : Nat) (D : Dt) (P : Ft) (a0 : Nat) (i1 : Int32) (i2 : Int32) : Option Int32 :=
  if kd nx a0 = 9 then
  (f_M_isPerson N nx D P a0 i1).bind fun z1 =>
  if z1 = 0 then
    some (-1)
  else
    if i2 = 0 then
      nn (P a0 5) fun q2 =>
      if ab nx q2 3 i1 = true then
      some (D q2 i1.toNatClampNeg)
      else none
    else
      if i2 = 1 then
        nn (P a0 11) fun q4 =>
        (f_M_load N nx D P a0 q4 i1).bind fun z5 =>
        some z5
      else
        if i2 = 2 then
          nn (P a0 11) fun q6 =>
          (f_M_those N nx D P a0 q6 i1).bind fun z7 =>
          some z7
        else
          if i2 = 3 then
            nn (P a0 11) fun q8 =>
            (f_M_doesBreak N nx D P a0 q8 i1).bind fun z9 =>
            if z9 = 0 then
              some 0
            else
              some 1
          else
            some (-1)
  else none
theorem m_M_person : MV yX9_person cX9_person 3 (some .int) 2 := ⟨mT 1026 (by decide +kernel) rfl, mT 1024 (by decide +kernel) rfl, mT 1025 (by decide +kernel) rfl, mT 68 (by decide +kernel) rfl, by decide +kernel, by decide +kernel, by decide +kernel⟩
set_option maxHeartbeats 4000000 in
set_option maxRecDepth 100000 in
theorem c_M_person (l : Launch) (cx : Cx) (nx N : Nat) (D : Dt) (P : Ft) (a0 : Nat) (i1 : Int32) (i2 : Int32) (z : Int32) (h : f_M_person N nx D P a0 i1 i2 = some z) : Ct l cx yX9_person cX9_person 3 (some .int) 4 [.ref (cx.2.2 + a0), .int i1, .int i2] D P nx (some (.int z)) D P := by
  refine x_met0 (by decide) (Nat.le_of_ble_eq_true rfl) ?_
  intro p e s m args below meth c X
  have X : XC p s m args meth c cx cX9_person 3 (some .int) "HeartPinsModel" "person" := X
  refine XW.sub (lv' := [(0, .ref (cx.2.2 + a0)), (1, .int i1), (2, .int i2)]) [0, 1, 2] rfl ?_
  unfold f_M_person at h
  obtain ⟨hk0, h⟩ := grd h
  refine x_aload_n (pc := 0) X dX9_person_0 (i := 0) rfl 0 rfl ?_
  refine x_iload_n (pc := 1) X dX9_person_1 (i := 1) rfl 1 rfl ?_
  obtain ⟨z1, e1, h⟩ := bnds h
  refine x_callV (pc := 2) (As := [.int i1]) (st := []) (st' := [.int z1]) X (c_M_isPerson l cx nx N D P _ _ z1 e1) dX9_person_2 w_1027 m_M_isPerson rfl hk0 (ci := 9) rfl rfl ⟨by decide, by decide⟩ ⟨Nat.zero_le _, Nat.zero_le _⟩ rfl (Nat.le_of_ble_eq_true rfl) rfl ?_
  refine x_if_ne (tgt := 10) (pc := 5) X dX9_person_5 (by decide) (fun c12 => ?_) (fun c12 => ?_)
  · have h := ite_f c12 h
    refine x_iload_n (pc := 10) X dX9_person_10 (i := 2) rfl 2 rfl ?_
    by_cases cs11_0 : i2 = 0
    · have h := ite_t cs11_0 h
      refine x_tsw (off := 29) (tgt := 40) (pc := 11) X 0 dX9_person_11 cs11_0 (by decide) (by decide) (by decide) (by decide) ?_
      refine x_aload_n (pc := 40) X dX9_person_40 (i := 0) rfl 0 rfl ?_
      obtain ⟨q2, e2, h⟩ := nns h
      refine x_getr (ci := 9) (k := 5) (n := 26) (C := RX9) (T := TX9) (pc := 41) X dX9_person_41 hk0 rfl (by decide) w_894 rfl e2 ?_
      refine x_iload_n (pc := 44) X dX9_person_44 (i := 1) rfl 1 rfl ?_
      obtain ⟨g3, h⟩ := grd h
      refine x_iald (pc := 45) X dX9_person_45 g3 ?_
      obtain rfl := Option.some.inj h
      exact x_iret (pc := 46) X dX9_person_46
    · have h := ite_f cs11_0 h
      by_cases cs11_1 : i2 = 1
      · have h := ite_t cs11_1 h
        refine x_tsw (off := 36) (tgt := 47) (pc := 11) X 1 dX9_person_11 cs11_1 (by decide) (by decide) (by decide) (by decide) ?_
        refine x_aload_n (pc := 47) X dX9_person_47 (i := 0) rfl 0 rfl ?_
        refine x_aload_n (pc := 48) X dX9_person_48 (i := 0) rfl 0 rfl ?_
        obtain ⟨q4, e4, h⟩ := nns h
        refine x_getr (ci := 9) (k := 11) (n := 26) (C := RX9) (T := TX9) (pc := 49) X dX9_person_49 hk0 rfl (by decide) w_900 rfl e4 ?_
        refine x_iload_n (pc := 52) X dX9_person_52 (i := 1) rfl 1 rfl ?_
        obtain ⟨z5, e5, h⟩ := bnds h
        refine x_callV (pc := 53) (As := [.ref (cx.2.2 + q4), .int i1]) (st := []) (st' := [.int z5]) X (c_M_load l cx nx N D P _ _ _ z5 e5) dX9_person_53 w_1031 m_M_load rfl hk0 (ci := 9) rfl rfl ⟨by decide, by decide⟩ ⟨Nat.zero_le _, Nat.zero_le _⟩ rfl (Nat.le_of_ble_eq_true rfl) rfl ?_
        obtain rfl := Option.some.inj h
        exact x_iret (pc := 56) X dX9_person_56
      · have h := ite_f cs11_1 h
        by_cases cs11_2 : i2 = 2
        · have h := ite_t cs11_2 h
          refine x_tsw (off := 46) (tgt := 57) (pc := 11) X 2 dX9_person_11 cs11_2 (by decide) (by decide) (by decide) (by decide) ?_
          refine x_aload_n (pc := 57) X dX9_person_57 (i := 0) rfl 0 rfl ?_
          refine x_aload_n (pc := 58) X dX9_person_58 (i := 0) rfl 0 rfl ?_
          obtain ⟨q6, e6, h⟩ := nns h
          refine x_getr (ci := 9) (k := 11) (n := 26) (C := RX9) (T := TX9) (pc := 59) X dX9_person_59 hk0 rfl (by decide) w_900 rfl e6 ?_
          refine x_iload_n (pc := 62) X dX9_person_62 (i := 1) rfl 1 rfl ?_
          obtain ⟨z7, e7, h⟩ := bnds h
          refine x_callV (pc := 63) (As := [.ref (cx.2.2 + q6), .int i1]) (st := []) (st' := [.int z7]) X (c_M_those l cx nx N D P _ _ _ z7 e7) dX9_person_63 w_1035 m_M_those rfl hk0 (ci := 9) rfl rfl ⟨by decide, by decide⟩ ⟨Nat.zero_le _, Nat.zero_le _⟩ rfl (Nat.le_of_ble_eq_true rfl) rfl ?_
          obtain rfl := Option.some.inj h
          exact x_iret (pc := 66) X dX9_person_66
        · have h := ite_f cs11_2 h
          by_cases cs11_3 : i2 = 3
          · have h := ite_t cs11_3 h
            refine x_tsw (off := 56) (tgt := 67) (pc := 11) X 3 dX9_person_11 cs11_3 (by decide) (by decide) (by decide) (by decide) ?_
            refine x_aload_n (pc := 67) X dX9_person_67 (i := 0) rfl 0 rfl ?_
            refine x_aload_n (pc := 68) X dX9_person_68 (i := 0) rfl 0 rfl ?_
            obtain ⟨q8, e8, h⟩ := nns h
            refine x_getr (ci := 9) (k := 11) (n := 26) (C := RX9) (T := TX9) (pc := 69) X dX9_person_69 hk0 rfl (by decide) w_900 rfl e8 ?_
            refine x_iload_n (pc := 72) X dX9_person_72 (i := 1) rfl 1 rfl ?_
            obtain ⟨z9, e9, h⟩ := bnds h
            refine x_callV (pc := 73) (As := [.ref (cx.2.2 + q8), .int i1]) (st := []) (st' := [.int z9]) X (c_M_doesBreak l cx nx N D P _ _ _ z9 e9) dX9_person_73 w_1046 m_M_doesBreak rfl hk0 (ci := 9) rfl rfl ⟨by decide, by decide⟩ ⟨Nat.zero_le _, Nat.zero_le _⟩ rfl (Nat.le_of_ble_eq_true rfl) rfl ?_
            refine x_if_eq (tgt := 83) (pc := 76) X dX9_person_76 (by decide) (fun c10 => ?_) (fun c10 => ?_)
            · have h := ite_t c10 h
              refine x_iconst (v := 0) (pc := 83) X dX9_person_83 (by decide) ?_
              obtain rfl := Option.some.inj h
              exact x_iret (pc := 84) X dX9_person_84
            · have h := ite_f c10 h
              refine x_iconst (v := 1) (pc := 79) X dX9_person_79 (by decide) ?_
              refine x_goto (tgt := 84) (pc := 80) X dX9_person_80 (by decide) ?_
              obtain rfl := Option.some.inj h
              exact x_iret (pc := 84) X dX9_person_84
          · have h := ite_f cs11_3 h
            refine x_tswd (tgt := 85) (pc := 11) X dX9_person_11 (sw_outg (lo := 0) (n := 4) (by decide) (by decide) rfl (fun k hk => ?_)) (by decide) ?_
            · rcases (show k = 0 ∨ k = 1 ∨ k = 2 ∨ k = 3 by omega) with rfl | rfl | rfl | rfl
              · exact fun y => cs11_0 (y.trans (by decide))
              · exact fun y => cs11_1 (y.trans (by decide))
              · exact fun y => cs11_2 (y.trans (by decide))
              · exact fun y => cs11_3 (y.trans (by decide))
            · refine x_iconst (v := (-1)) (pc := 85) X dX9_person_85 (by decide) ?_
              obtain rfl := Option.some.inj h
              exact x_iret (pc := 86) X dX9_person_86
  · have h := ite_t c12 h
    refine x_iconst (v := (-1)) (pc := 8) X dX9_person_8 (by decide) ?_
    obtain rfl := Option.some.inj h
    exact x_iret (pc := 9) X dX9_person_9
theorem dX9_pin_0 : decode cX9_pin 0 = .ok (.aload_n 0, 1) := by decide +kernel
theorem dX9_pin_1 : decode cX9_pin 1 = .ok (.iload_n 1, 1) := by decide +kernel
theorem dX9_pin_2 : decode cX9_pin 2 = .ok (.invokevirtual 178, 3) := by decide +kernel
theorem dX9_pin_5 : decode cX9_pin 5 = .ok (.ifCond .ne 5, 3) := by decide +kernel
theorem dX9_pin_8 : decode cX9_pin 8 = .ok (.iconst (-1), 1) := by decide +kernel
theorem dX9_pin_9 : decode cX9_pin 9 = .ok (.ireturn, 1) := by decide +kernel
theorem dX9_pin_10 : decode cX9_pin 10 = .ok (.iload_n 2, 1) := by decide +kernel
theorem dX9_pin_11 : decode cX9_pin 11 = .ok (.tableswitch 110 0 4 #[33, 40, 47, 57, 85], 33) := by decide +kernel
theorem dX9_pin_44 : decode cX9_pin 44 = .ok (.aload_n 0, 1) := by decide +kernel
theorem dX9_pin_45 : decode cX9_pin 45 = .ok (.getfield 26, 3) := by decide +kernel
theorem dX9_pin_48 : decode cX9_pin 48 = .ok (.iload_n 1, 1) := by decide +kernel
theorem dX9_pin_49 : decode cX9_pin 49 = .ok (.iaload, 1) := by decide +kernel
theorem dX9_pin_50 : decode cX9_pin 50 = .ok (.ireturn, 1) := by decide +kernel
theorem dX9_pin_51 : decode cX9_pin 51 = .ok (.aload_n 0, 1) := by decide +kernel
theorem dX9_pin_52 : decode cX9_pin 52 = .ok (.getfield 29, 3) := by decide +kernel
theorem dX9_pin_55 : decode cX9_pin 55 = .ok (.iload_n 1, 1) := by decide +kernel
theorem dX9_pin_56 : decode cX9_pin 56 = .ok (.iaload, 1) := by decide +kernel
theorem dX9_pin_57 : decode cX9_pin 57 = .ok (.ireturn, 1) := by decide +kernel
theorem dX9_pin_58 : decode cX9_pin 58 = .ok (.aload_n 0, 1) := by decide +kernel
theorem dX9_pin_59 : decode cX9_pin 59 = .ok (.getfield 35, 3) := by decide +kernel
theorem dX9_pin_62 : decode cX9_pin 62 = .ok (.bipush 10, 2) := by decide +kernel
theorem dX9_pin_64 : decode cX9_pin 64 = .ok (.iload_n 1, 1) := by decide +kernel
theorem dX9_pin_65 : decode cX9_pin 65 = .ok (.iadd, 1) := by decide +kernel
theorem dX9_pin_66 : decode cX9_pin 66 = .ok (.iaload, 1) := by decide +kernel
theorem dX9_pin_67 : decode cX9_pin 67 = .ok (.ireturn, 1) := by decide +kernel
theorem dX9_pin_68 : decode cX9_pin 68 = .ok (.aload_n 0, 1) := by decide +kernel
theorem dX9_pin_69 : decode cX9_pin 69 = .ok (.getfield 35, 3) := by decide +kernel
theorem dX9_pin_72 : decode cX9_pin 72 = .ok (.iload_n 1, 1) := by decide +kernel
theorem dX9_pin_73 : decode cX9_pin 73 = .ok (.invokestatic 145, 3) := by decide +kernel
theorem dX9_pin_76 : decode cX9_pin 76 = .ok (.ifCond .eq 7, 3) := by decide +kernel
theorem dX9_pin_79 : decode cX9_pin 79 = .ok (.iconst 0, 1) := by decide +kernel
theorem dX9_pin_80 : decode cX9_pin 80 = .ok (.goto 15, 3) := by decide +kernel
theorem dX9_pin_83 : decode cX9_pin 83 = .ok (.aload_n 0, 1) := by decide +kernel
theorem dX9_pin_84 : decode cX9_pin 84 = .ok (.getfield 35, 3) := by decide +kernel
theorem dX9_pin_87 : decode cX9_pin 87 = .ok (.iconst 2, 1) := by decide +kernel
theorem dX9_pin_88 : decode cX9_pin 88 = .ok (.iload_n 1, 1) := by decide +kernel
theorem dX9_pin_89 : decode cX9_pin 89 = .ok (.iadd, 1) := by decide +kernel
theorem dX9_pin_90 : decode cX9_pin 90 = .ok (.iaload, 1) := by decide +kernel
theorem dX9_pin_91 : decode cX9_pin 91 = .ok (.iconst 5, 1) := by decide +kernel
theorem dX9_pin_92 : decode cX9_pin 92 = .ok (.isub, 1) := by decide +kernel
theorem dX9_pin_93 : decode cX9_pin 93 = .ok (.iconst 1, 1) := by decide +kernel
theorem dX9_pin_94 : decode cX9_pin 94 = .ok (.iadd, 1) := by decide +kernel
theorem dX9_pin_95 : decode cX9_pin 95 = .ok (.ireturn, 1) := by decide +kernel
theorem dX9_pin_96 : decode cX9_pin 96 = .ok (.aload_n 0, 1) := by decide +kernel
theorem dX9_pin_97 : decode cX9_pin 97 = .ok (.getfield 35, 3) := by decide +kernel
theorem dX9_pin_100 : decode cX9_pin 100 = .ok (.iload_n 1, 1) := by decide +kernel
theorem dX9_pin_101 : decode cX9_pin 101 = .ok (.invokestatic 145, 3) := by decide +kernel
theorem dX9_pin_104 : decode cX9_pin 104 = .ok (.ifCond .eq 14, 3) := by decide +kernel
theorem dX9_pin_107 : decode cX9_pin 107 = .ok (.aload_n 0, 1) := by decide +kernel
theorem dX9_pin_108 : decode cX9_pin 108 = .ok (.getfield 35, 3) := by decide +kernel
theorem dX9_pin_111 : decode cX9_pin 111 = .ok (.iconst 2, 1) := by decide +kernel
theorem dX9_pin_112 : decode cX9_pin 112 = .ok (.iload_n 1, 1) := by decide +kernel
theorem dX9_pin_113 : decode cX9_pin 113 = .ok (.iadd, 1) := by decide +kernel
theorem dX9_pin_114 : decode cX9_pin 114 = .ok (.iaload, 1) := by decide +kernel
theorem dX9_pin_115 : decode cX9_pin 115 = .ok (.goto 5, 3) := by decide +kernel
theorem dX9_pin_118 : decode cX9_pin 118 = .ok (.bipush (-4), 2) := by decide +kernel
theorem dX9_pin_120 : decode cX9_pin 120 = .ok (.ireturn, 1) := by decide +kernel
theorem dX9_pin_121 : decode cX9_pin 121 = .ok (.iconst (-1), 1) := by decide +kernel
theorem dX9_pin_122 : decode cX9_pin 122 = .ok (.ireturn, 1) := by decide +kernel
def f_M_pin (N nx : Nat) (D : Dt) (P : Ft) (a0 : Nat) (i1 : Int32) (i2 : Int32) : Option Int32 :=
  if kd nx a0 = 9 then
  (f_M_isPin N nx D P a0 i1).bind fun z1 =>
  if z1 = 0 then
    some (-1)
  else
    if i2 = 0 then
      nn (P a0 6) fun q2 =>
      if ab nx q2 3 i1 = true then
      some (D q2 i1.toNatClampNeg)
      else none
    else
      if i2 = 1 then
        nn (P a0 7) fun q4 =>
        if ab nx q4 3 i1 = true then
        some (D q4 i1.toNatClampNeg)
        else none
      else
        if i2 = 2 then
          nn (P a0 11) fun q6 =>
          if ab nx q6 3 (10 + i1) = true then
          some (D q6 (10 + i1).toNatClampNeg)
          else none
        else
          if i2 = 3 then
            nn (P a0 11) fun q8 =>
            (f_M_isBorne N nx D P q8 i1).bind fun z9 =>
            if z9 = 0 then
              if ab nx q8 3 (2 + i1) = true then
              some (((D q8 (2 + i1).toNatClampNeg) - 5) + 1)
              else none
            else
              some 0
          else
            if i2 = 4 then
              nn (P a0 11) fun q12 =>
              (f_M_isBorne N nx D P q12 i1).bind fun z13 =>
              if z13 = 0 then
                some (-4)
              else
                if ab nx q12 3 (2 + i1) = true then
                some (D q12 (2 + i1).toNatClampNeg)
                else none
            else
              some (-1)
  else none
theorem m_M_pin : MV yX9_pin cX9_pin 3 (some .int) 2 := ⟨mT 1053 (by decide +kernel) rfl, mT 1051 (by decide +kernel) rfl, mT 1052 (by decide +kernel) rfl, mT 68 (by decide +kernel) rfl, by decide +kernel, by decide +kernel, by decide +kernel⟩
set_option maxHeartbeats 4000000 in
set_option maxRecDepth 100000 in
theorem c_M_pin (l : Launch) (cx : Cx) (nx N : Nat) (D : Dt) (P : Ft) (a0 : Nat) (i1 : Int32) (i2 : Int32) (z : Int32) (h : f_M_pin N nx D P a0 i1 i2 = some z) : Ct l cx yX9_pin cX9_pin 3 (some .int) 2 [.ref (cx.2.2 + a0), .int i1, .int i2] D P nx (some (.int z)) D P := by
  refine x_met0 (by decide) (Nat.le_of_ble_eq_true rfl) ?_
  intro p e s m args below meth c X
  have X : XC p s m args meth c cx cX9_pin 3 (some .int) "HeartPinsModel" "pin" := X
  refine XW.sub (lv' := [(0, .ref (cx.2.2 + a0)), (1, .int i1), (2, .int i2)]) [0, 1, 2] rfl ?_
  unfold f_M_pin at h
  obtain ⟨hk0, h⟩ := grd h
  refine x_aload_n (pc := 0) X dX9_pin_0 (i := 0) rfl 0 rfl ?_
  refine x_iload_n (pc := 1) X dX9_pin_1 (i := 1) rfl 1 rfl ?_
  obtain ⟨z1, e1, h⟩ := bnds h
  refine x_callV (pc := 2) (As := [.int i1]) (st := []) (st' := [.int z1]) X (c_M_isPin l cx nx N D P _ _ z1 e1) dX9_pin_2 w_1054 m_M_isPin rfl hk0 (ci := 9) rfl rfl ⟨by decide, by decide⟩ ⟨Nat.zero_le _, Nat.zero_le _⟩ rfl (Nat.le_of_ble_eq_true rfl) rfl ?_
  refine x_if_ne (tgt := 10) (pc := 5) X dX9_pin_5 (by decide) (fun c17 => ?_) (fun c17 => ?_)
  · have h := ite_f c17 h
    refine x_iload_n (pc := 10) X dX9_pin_10 (i := 2) rfl 2 rfl ?_
    by_cases cs11_0 : i2 = 0
    · have h := ite_t cs11_0 h
      refine x_tsw (off := 33) (tgt := 44) (pc := 11) X 0 dX9_pin_11 cs11_0 (by decide) (by decide) (by decide) (by decide) ?_
      refine x_aload_n (pc := 44) X dX9_pin_44 (i := 0) rfl 0 rfl ?_
      obtain ⟨q2, e2, h⟩ := nns h
      refine x_getr (ci := 9) (k := 6) (n := 26) (C := RX9) (T := TX9) (pc := 45) X dX9_pin_45 hk0 rfl (by decide) w_895 rfl e2 ?_
      refine x_iload_n (pc := 48) X dX9_pin_48 (i := 1) rfl 1 rfl ?_
      obtain ⟨g3, h⟩ := grd h
      refine x_iald (pc := 49) X dX9_pin_49 g3 ?_
      obtain rfl := Option.some.inj h
      exact x_iret (pc := 50) X dX9_pin_50
    · have h := ite_f cs11_0 h
      by_cases cs11_1 : i2 = 1
      · have h := ite_t cs11_1 h
        refine x_tsw (off := 40) (tgt := 51) (pc := 11) X 1 dX9_pin_11 cs11_1 (by decide) (by decide) (by decide) (by decide) ?_
        refine x_aload_n (pc := 51) X dX9_pin_51 (i := 0) rfl 0 rfl ?_
        obtain ⟨q4, e4, h⟩ := nns h
        refine x_getr (ci := 9) (k := 7) (n := 26) (C := RX9) (T := TX9) (pc := 52) X dX9_pin_52 hk0 rfl (by decide) w_896 rfl e4 ?_
        refine x_iload_n (pc := 55) X dX9_pin_55 (i := 1) rfl 1 rfl ?_
        obtain ⟨g5, h⟩ := grd h
        refine x_iald (pc := 56) X dX9_pin_56 g5 ?_
        obtain rfl := Option.some.inj h
        exact x_iret (pc := 57) X dX9_pin_57
      · have h := ite_f cs11_1 h
        by_cases cs11_2 : i2 = 2
        · have h := ite_t cs11_2 h
          refine x_tsw (off := 47) (tgt := 58) (pc := 11) X 2 dX9_pin_11 cs11_2 (by decide) (by decide) (by decide) (by decide) ?_
          refine x_aload_n (pc := 58) X dX9_pin_58 (i := 0) rfl 0 rfl ?_
          obtain ⟨q6, e6, h⟩ := nns h
          refine x_getr (ci := 9) (k := 11) (n := 26) (C := RX9) (T := TX9) (pc := 59) X dX9_pin_59 hk0 rfl (by decide) w_900 rfl e6 ?_
          refine x_bipush (v := 10) (pc := 62) X dX9_pin_62 (by decide) ?_
          refine x_iload_n (pc := 64) X dX9_pin_64 (i := 1) rfl 1 rfl ?_
          refine x_iadd (pc := 65) X dX9_pin_65 ?_
          obtain ⟨g7, h⟩ := grd h
          refine x_iald (pc := 66) X dX9_pin_66 g7 ?_
          obtain rfl := Option.some.inj h
          exact x_iret (pc := 67) X dX9_pin_67
        · have h := ite_f cs11_2 h
          by_cases cs11_3 : i2 = 3
          · have h := ite_t cs11_3 h
            refine x_tsw (off := 57) (tgt := 68) (pc := 11) X 3 dX9_pin_11 cs11_3 (by decide) (by decide) (by decide) (by decide) ?_
            refine x_aload_n (pc := 68) X dX9_pin_68 (i := 0) rfl 0 rfl ?_
            obtain ⟨q8, e8, h⟩ := nns h
            refine x_getr (ci := 9) (k := 11) (n := 26) (C := RX9) (T := TX9) (pc := 69) X dX9_pin_69 hk0 rfl (by decide) w_900 rfl e8 ?_
            refine x_iload_n (pc := 72) X dX9_pin_72 (i := 1) rfl 1 rfl ?_
            obtain ⟨z9, e9, h⟩ := bnds h
            refine x_callS (pc := 73) (As := [.ref (cx.2.2 + q8), .int i1]) (st := []) (st' := [.int z9]) X (c_M_isBorne l cx nx N D P _ _ z9 e9) dX9_pin_73 w_1058 m_M_isBorne rfl ⟨by decide, by decide⟩ ⟨Nat.zero_le _, Nat.zero_le _⟩ rfl (Nat.le_of_ble_eq_true rfl) rfl ?_
            refine x_if_eq (tgt := 83) (pc := 76) X dX9_pin_76 (by decide) (fun c11 => ?_) (fun c11 => ?_)
            · have h := ite_t c11 h
              refine x_aload_n (pc := 83) X dX9_pin_83 (i := 0) rfl 0 rfl ?_
              refine x_getr (ci := 9) (k := 11) (n := 26) (C := RX9) (T := TX9) (pc := 84) X dX9_pin_84 hk0 rfl (by decide) w_900 rfl e8 ?_
              refine x_iconst (v := 2) (pc := 87) X dX9_pin_87 (by decide) ?_
              refine x_iload_n (pc := 88) X dX9_pin_88 (i := 1) rfl 1 rfl ?_
              refine x_iadd (pc := 89) X dX9_pin_89 ?_
              obtain ⟨g10, h⟩ := grd h
              refine x_iald (pc := 90) X dX9_pin_90 g10 ?_
              refine x_iconst (v := 5) (pc := 91) X dX9_pin_91 (by decide) ?_
              refine x_isub (pc := 92) X dX9_pin_92 ?_
              refine x_iconst (v := 1) (pc := 93) X dX9_pin_93 (by decide) ?_
              refine x_iadd (pc := 94) X dX9_pin_94 ?_
              obtain rfl := Option.some.inj h
              exact x_iret (pc := 95) X dX9_pin_95
            · have h := ite_f c11 h
              refine x_iconst (v := 0) (pc := 79) X dX9_pin_79 (by decide) ?_
              refine x_goto (tgt := 95) (pc := 80) X dX9_pin_80 (by decide) ?_
              obtain rfl := Option.some.inj h
              exact x_iret (pc := 95) X dX9_pin_95
          · have h := ite_f cs11_3 h
            by_cases cs11_4 : i2 = 4
            · have h := ite_t cs11_4 h
              refine x_tsw (off := 85) (tgt := 96) (pc := 11) X 4 dX9_pin_11 cs11_4 (by decide) (by decide) (by decide) (by decide) ?_
              refine x_aload_n (pc := 96) X dX9_pin_96 (i := 0) rfl 0 rfl ?_
              obtain ⟨q12, e12, h⟩ := nns h
              refine x_getr (ci := 9) (k := 11) (n := 26) (C := RX9) (T := TX9) (pc := 97) X dX9_pin_97 hk0 rfl (by decide) w_900 rfl e12 ?_
              refine x_iload_n (pc := 100) X dX9_pin_100 (i := 1) rfl 1 rfl ?_
              obtain ⟨z13, e13, h⟩ := bnds h
              refine x_callS (pc := 101) (As := [.ref (cx.2.2 + q12), .int i1]) (st := []) (st' := [.int z13]) X (c_M_isBorne l cx nx N D P _ _ z13 e13) dX9_pin_101 w_1058 m_M_isBorne rfl ⟨by decide, by decide⟩ ⟨Nat.zero_le _, Nat.zero_le _⟩ rfl (Nat.le_of_ble_eq_true rfl) rfl ?_
              refine x_if_eq (tgt := 118) (pc := 104) X dX9_pin_104 (by decide) (fun c15 => ?_) (fun c15 => ?_)
              · have h := ite_t c15 h
                refine x_bipush (v := (-4)) (pc := 118) X dX9_pin_118 (by decide) ?_
                obtain rfl := Option.some.inj h
                exact x_iret (pc := 120) X dX9_pin_120
              · have h := ite_f c15 h
                refine x_aload_n (pc := 107) X dX9_pin_107 (i := 0) rfl 0 rfl ?_
                refine x_getr (ci := 9) (k := 11) (n := 26) (C := RX9) (T := TX9) (pc := 108) X dX9_pin_108 hk0 rfl (by decide) w_900 rfl e12 ?_
                refine x_iconst (v := 2) (pc := 111) X dX9_pin_111 (by decide) ?_
                refine x_iload_n (pc := 112) X dX9_pin_112 (i := 1) rfl 1 rfl ?_
                refine x_iadd (pc := 113) X dX9_pin_113 ?_
                obtain ⟨g14, h⟩ := grd h
                refine x_iald (pc := 114) X dX9_pin_114 g14 ?_
                refine x_goto (tgt := 120) (pc := 115) X dX9_pin_115 (by decide) ?_
                obtain rfl := Option.some.inj h
                exact x_iret (pc := 120) X dX9_pin_120
            · have h := ite_f cs11_4 h
              refine x_tswd (tgt := 121) (pc := 11) X dX9_pin_11 (sw_outg (lo := 0) (n := 5) (by decide) (by decide) rfl (fun k hk => ?_)) (by decide) ?_
              · rcases (show k = 0 ∨ k = 1 ∨ k = 2 ∨ k = 3 ∨ k = 4 by omega) with rfl | rfl | rfl | rfl | rfl
                · exact fun y => cs11_0 (y.trans (by decide))
                · exact fun y => cs11_1 (y.trans (by decide))
                · exact fun y => cs11_2 (y.trans (by decide))
                · exact fun y => cs11_3 (y.trans (by decide))
                · exact fun y => cs11_4 (y.trans (by decide))
              · refine x_iconst (v := (-1)) (pc := 121) X dX9_pin_121 (by decide) ?_
                obtain rfl := Option.some.inj h
                exact x_iret (pc := 122) X dX9_pin_122
  · have h := ite_t c17 h
    refine x_iconst (v := (-1)) (pc := 8) X dX9_pin_8 (by decide) ?_
    obtain rfl := Option.some.inj h
    exact x_iret (pc := 9) X dX9_pin_9
theorem dX9_heart_0 : decode cX9_heart 0 = .ok (.iload_n 1, 1) := by decide +kernel
theorem dX9_heart_1 : decode cX9_heart 1 = .ok (.tableswitch 109 0 6 #[43, 43, 43, 50, 57, 75, 92], 43) := by decide +kernel
theorem dX9_heart_44 : decode cX9_heart 44 = .ok (.aload_n 0, 1) := by decide +kernel
theorem dX9_heart_45 : decode cX9_heart 45 = .ok (.getfield 20, 3) := by decide +kernel
theorem dX9_heart_48 : decode cX9_heart 48 = .ok (.iload_n 1, 1) := by decide +kernel
theorem dX9_heart_49 : decode cX9_heart 49 = .ok (.iaload, 1) := by decide +kernel
theorem dX9_heart_50 : decode cX9_heart 50 = .ok (.ireturn, 1) := by decide +kernel
theorem dX9_heart_51 : decode cX9_heart 51 = .ok (.aload_n 0, 1) := by decide +kernel
theorem dX9_heart_52 : decode cX9_heart 52 = .ok (.getfield 35, 3) := by decide +kernel
theorem dX9_heart_55 : decode cX9_heart 55 = .ok (.iconst 1, 1) := by decide +kernel
theorem dX9_heart_56 : decode cX9_heart 56 = .ok (.iaload, 1) := by decide +kernel
theorem dX9_heart_57 : decode cX9_heart 57 = .ok (.ireturn, 1) := by decide +kernel
theorem dX9_heart_58 : decode cX9_heart 58 = .ok (.aload_n 0, 1) := by decide +kernel
theorem dX9_heart_59 : decode cX9_heart 59 = .ok (.aload_n 0, 1) := by decide +kernel
theorem dX9_heart_60 : decode cX9_heart 60 = .ok (.getfield 35, 3) := by decide +kernel
theorem dX9_heart_63 : decode cX9_heart 63 = .ok (.aload_n 0, 1) := by decide +kernel
theorem dX9_heart_64 : decode cX9_heart 64 = .ok (.aload_n 0, 1) := by decide +kernel
theorem dX9_heart_65 : decode cX9_heart 65 = .ok (.getfield 35, 3) := by decide +kernel
theorem dX9_heart_68 : decode cX9_heart 68 = .ok (.iconst 5, 1) := by decide +kernel
theorem dX9_heart_69 : decode cX9_heart 69 = .ok (.invokevirtual 153, 3) := by decide +kernel
theorem dX9_heart_72 : decode cX9_heart 72 = .ok (.invokevirtual 157, 3) := by decide +kernel
theorem dX9_heart_75 : decode cX9_heart 75 = .ok (.ireturn, 1) := by decide +kernel
theorem dX9_heart_76 : decode cX9_heart 76 = .ok (.aload_n 0, 1) := by decide +kernel
theorem dX9_heart_77 : decode cX9_heart 77 = .ok (.aload_n 0, 1) := by decide +kernel
theorem dX9_heart_78 : decode cX9_heart 78 = .ok (.getfield 35, 3) := by decide +kernel
theorem dX9_heart_81 : decode cX9_heart 81 = .ok (.invokevirtual 166, 3) := by decide +kernel
theorem dX9_heart_84 : decode cX9_heart 84 = .ok (.ifCond .eq 7, 3) := by decide +kernel
theorem dX9_heart_87 : decode cX9_heart 87 = .ok (.iconst 1, 1) := by decide +kernel
theorem dX9_heart_88 : decode cX9_heart 88 = .ok (.goto 4, 3) := by decide +kernel
theorem dX9_heart_91 : decode cX9_heart 91 = .ok (.iconst 0, 1) := by decide +kernel
theorem dX9_heart_92 : decode cX9_heart 92 = .ok (.ireturn, 1) := by decide +kernel
theorem dX9_heart_93 : decode cX9_heart 93 = .ok (.aload_n 0, 1) := by decide +kernel
theorem dX9_heart_94 : decode cX9_heart 94 = .ok (.aload_n 0, 1) := by decide +kernel
theorem dX9_heart_95 : decode cX9_heart 95 = .ok (.getfield 35, 3) := by decide +kernel
theorem dX9_heart_98 : decode cX9_heart 98 = .ok (.invokevirtual 181, 3) := by decide +kernel
theorem dX9_heart_101 : decode cX9_heart 101 = .ok (.ifCond .eq 7, 3) := by decide +kernel
theorem dX9_heart_104 : decode cX9_heart 104 = .ok (.iconst 1, 1) := by decide +kernel
theorem dX9_heart_105 : decode cX9_heart 105 = .ok (.goto 4, 3) := by decide +kernel
theorem dX9_heart_108 : decode cX9_heart 108 = .ok (.iconst 0, 1) := by decide +kernel
theorem dX9_heart_109 : decode cX9_heart 109 = .ok (.ireturn, 1) := by decide +kernel
theorem dX9_heart_110 : decode cX9_heart 110 = .ok (.iconst (-1), 1) := by decide +kernel
theorem dX9_heart_111 : decode cX9_heart 111 = .ok (.ireturn, 1) := by decide +kernel
def f_M_heart (N nx : Nat) (D : Dt) (P : Ft) (a0 : Nat) (i1 : Int32) : Option Int32 :=
  if kd nx a0 = 9 then
  if i1 = 0 then
    nn (P a0 4) fun q1 =>
    if ab nx q1 3 i1 = true then
    some (D q1 i1.toNatClampNeg)
    else none
  else
    if i1 = 1 then
      nn (P a0 4) fun q3 =>
      if ab nx q3 3 i1 = true then
      some (D q3 i1.toNatClampNeg)
      else none
    else
      if i1 = 2 then
        nn (P a0 4) fun q5 =>
        if ab nx q5 3 i1 = true then
        some (D q5 i1.toNatClampNeg)
        else none
      else
        if i1 = 3 then
          nn (P a0 11) fun q7 =>
          if ab nx q7 3 1 = true then
          some (D q7 (1 : Int32).toNatClampNeg)
          else none
        else
          if i1 = 4 then
            nn (P a0 11) fun q9 =>
            (f_M_those N nx D P a0 q9 5).bind fun z10 =>
            (f_M_sizeOf N nx D P a0 q9 z10).bind fun z11 =>
            some z11
          else
            if i1 = 5 then
              nn (P a0 11) fun q12 =>
              (f_M_isFull N nx D P a0 q12).bind fun z13 =>
              if z13 = 0 then
                some 0
              else
                some 1
            else
              if i1 = 6 then
                nn (P a0 11) fun q15 =>
                (f_M_isAtDoor N nx D P a0 q15).bind fun z16 =>
                if z16 = 0 then
                  some 0
                else
                  some 1
              else
                some (-1)
  else none
theorem m_M_heart : MV yX9_heart cX9_heart 2 (some .int) 1 := ⟨mT 1064 (by decide +kernel) rfl, mT 1062 (by decide +kernel) rfl, mT 1063 (by decide +kernel) rfl, mT 68 (by decide +kernel) rfl, by decide +kernel, by decide +kernel, by decide +kernel⟩
set_option maxHeartbeats 4000000 in
set_option maxRecDepth 100000 in
theorem c_M_heart (l : Launch) (cx : Cx) (nx N : Nat) (D : Dt) (P : Ft) (a0 : Nat) (i1 : Int32) (z : Int32) (h : f_M_heart N nx D P a0 i1 = some z) : Ct l cx yX9_heart cX9_heart 2 (some .int) 3 [.ref (cx.2.2 + a0), .int i1] D P nx (some (.int z)) D P := by
  refine x_met0 (by decide) (Nat.le_of_ble_eq_true rfl) ?_
  intro p e s m args below meth c X
  have X : XC p s m args meth c cx cX9_heart 2 (some .int) "HeartPinsModel" "heart" := X
  refine XW.sub (lv' := [(0, .ref (cx.2.2 + a0)), (1, .int i1)]) [0, 1] rfl ?_
  unfold f_M_heart at h
  obtain ⟨hk0, h⟩ := grd h
  refine x_iload_n (pc := 0) X dX9_heart_0 (i := 1) rfl 1 rfl ?_
  by_cases cs1_0 : i1 = 0
  · have h := ite_t cs1_0 h
    refine x_tsw (off := 43) (tgt := 44) (pc := 1) X 0 dX9_heart_1 cs1_0 (by decide) (by decide) (by decide) (by decide) ?_
    refine x_aload_n (pc := 44) X dX9_heart_44 (i := 0) rfl 0 rfl ?_
    obtain ⟨q1, e1, h⟩ := nns h
    refine x_getr (ci := 9) (k := 4) (n := 26) (C := RX9) (T := TX9) (pc := 45) X dX9_heart_45 hk0 rfl (by decide) w_893 rfl e1 ?_
    refine x_iload_n (pc := 48) X dX9_heart_48 (i := 1) rfl 1 rfl ?_
    obtain ⟨g2, h⟩ := grd h
    refine x_iald (pc := 49) X dX9_heart_49 g2 ?_
    obtain rfl := Option.some.inj h
    exact x_iret (pc := 50) X dX9_heart_50
  · have h := ite_f cs1_0 h
    by_cases cs1_1 : i1 = 1
    · have h := ite_t cs1_1 h
      refine x_tsw (off := 43) (tgt := 44) (pc := 1) X 1 dX9_heart_1 cs1_1 (by decide) (by decide) (by decide) (by decide) ?_
      refine x_aload_n (pc := 44) X dX9_heart_44 (i := 0) rfl 0 rfl ?_
      obtain ⟨q3, e3, h⟩ := nns h
      refine x_getr (ci := 9) (k := 4) (n := 26) (C := RX9) (T := TX9) (pc := 45) X dX9_heart_45 hk0 rfl (by decide) w_893 rfl e3 ?_
      refine x_iload_n (pc := 48) X dX9_heart_48 (i := 1) rfl 1 rfl ?_
      obtain ⟨g4, h⟩ := grd h
      refine x_iald (pc := 49) X dX9_heart_49 g4 ?_
      obtain rfl := Option.some.inj h
      exact x_iret (pc := 50) X dX9_heart_50
    · have h := ite_f cs1_1 h
      by_cases cs1_2 : i1 = 2
      · have h := ite_t cs1_2 h
        refine x_tsw (off := 43) (tgt := 44) (pc := 1) X 2 dX9_heart_1 cs1_2 (by decide) (by decide) (by decide) (by decide) ?_
        refine x_aload_n (pc := 44) X dX9_heart_44 (i := 0) rfl 0 rfl ?_
        obtain ⟨q5, e5, h⟩ := nns h
        refine x_getr (ci := 9) (k := 4) (n := 26) (C := RX9) (T := TX9) (pc := 45) X dX9_heart_45 hk0 rfl (by decide) w_893 rfl e5 ?_
        refine x_iload_n (pc := 48) X dX9_heart_48 (i := 1) rfl 1 rfl ?_
        obtain ⟨g6, h⟩ := grd h
        refine x_iald (pc := 49) X dX9_heart_49 g6 ?_
        obtain rfl := Option.some.inj h
        exact x_iret (pc := 50) X dX9_heart_50
      · have h := ite_f cs1_2 h
        by_cases cs1_3 : i1 = 3
        · have h := ite_t cs1_3 h
          refine x_tsw (off := 50) (tgt := 51) (pc := 1) X 3 dX9_heart_1 cs1_3 (by decide) (by decide) (by decide) (by decide) ?_
          refine x_aload_n (pc := 51) X dX9_heart_51 (i := 0) rfl 0 rfl ?_
          obtain ⟨q7, e7, h⟩ := nns h
          refine x_getr (ci := 9) (k := 11) (n := 26) (C := RX9) (T := TX9) (pc := 52) X dX9_heart_52 hk0 rfl (by decide) w_900 rfl e7 ?_
          refine x_iconst (v := 1) (pc := 55) X dX9_heart_55 (by decide) ?_
          obtain ⟨g8, h⟩ := grd h
          refine x_iald (pc := 56) X dX9_heart_56 g8 ?_
          obtain rfl := Option.some.inj h
          exact x_iret (pc := 57) X dX9_heart_57
        · have h := ite_f cs1_3 h
          by_cases cs1_4 : i1 = 4
          · have h := ite_t cs1_4 h
            refine x_tsw (off := 57) (tgt := 58) (pc := 1) X 4 dX9_heart_1 cs1_4 (by decide) (by decide) (by decide) (by decide) ?_
            refine x_aload_n (pc := 58) X dX9_heart_58 (i := 0) rfl 0 rfl ?_
            refine x_aload_n (pc := 59) X dX9_heart_59 (i := 0) rfl 0 rfl ?_
            obtain ⟨q9, e9, h⟩ := nns h
            refine x_getr (ci := 9) (k := 11) (n := 26) (C := RX9) (T := TX9) (pc := 60) X dX9_heart_60 hk0 rfl (by decide) w_900 rfl e9 ?_
            refine x_aload_n (pc := 63) X dX9_heart_63 (i := 0) rfl 0 rfl ?_
            refine x_aload_n (pc := 64) X dX9_heart_64 (i := 0) rfl 0 rfl ?_
            refine x_getr (ci := 9) (k := 11) (n := 26) (C := RX9) (T := TX9) (pc := 65) X dX9_heart_65 hk0 rfl (by decide) w_900 rfl e9 ?_
            refine x_iconst (v := 5) (pc := 68) X dX9_heart_68 (by decide) ?_
            obtain ⟨z10, e10, h⟩ := bnds h
            refine x_callV (pc := 69) (As := [.ref (cx.2.2 + q9), .int 5]) (st := [.ref (cx.2.2 + q9), .ref (cx.2.2 + a0)]) (st' := [.int z10, .ref (cx.2.2 + q9), .ref (cx.2.2 + a0)]) X (c_M_those l cx nx N D P _ _ _ z10 e10) dX9_heart_69 w_1035 m_M_those rfl hk0 (ci := 9) rfl rfl ⟨by decide, by decide⟩ ⟨Nat.zero_le _, Nat.zero_le _⟩ rfl (Nat.le_of_ble_eq_true rfl) rfl ?_
            obtain ⟨z11, e11, h⟩ := bnds h
            refine x_callV (pc := 72) (As := [.ref (cx.2.2 + q9), .int z10]) (st := []) (st' := [.int z11]) X (c_M_sizeOf l cx nx N D P _ _ _ z11 e11) dX9_heart_72 w_1039 m_M_sizeOf rfl hk0 (ci := 9) rfl rfl ⟨by decide, by decide⟩ ⟨Nat.zero_le _, Nat.zero_le _⟩ rfl (Nat.le_of_ble_eq_true rfl) rfl ?_
            obtain rfl := Option.some.inj h
            exact x_iret (pc := 75) X dX9_heart_75
          · have h := ite_f cs1_4 h
            by_cases cs1_5 : i1 = 5
            · have h := ite_t cs1_5 h
              refine x_tsw (off := 75) (tgt := 76) (pc := 1) X 5 dX9_heart_1 cs1_5 (by decide) (by decide) (by decide) (by decide) ?_
              refine x_aload_n (pc := 76) X dX9_heart_76 (i := 0) rfl 0 rfl ?_
              refine x_aload_n (pc := 77) X dX9_heart_77 (i := 0) rfl 0 rfl ?_
              obtain ⟨q12, e12, h⟩ := nns h
              refine x_getr (ci := 9) (k := 11) (n := 26) (C := RX9) (T := TX9) (pc := 78) X dX9_heart_78 hk0 rfl (by decide) w_900 rfl e12 ?_
              obtain ⟨z13, e13, h⟩ := bnds h
              refine x_callV (pc := 81) (As := [.ref (cx.2.2 + q12)]) (st := []) (st' := [.int z13]) X (c_M_isFull l cx nx N D P _ _ z13 e13) dX9_heart_81 w_1065 m_M_isFull rfl hk0 (ci := 9) rfl rfl ⟨by decide, by decide⟩ ⟨Nat.zero_le _, Nat.zero_le _⟩ rfl (Nat.le_of_ble_eq_true rfl) rfl ?_
              refine x_if_eq (tgt := 91) (pc := 84) X dX9_heart_84 (by decide) (fun c14 => ?_) (fun c14 => ?_)
              · have h := ite_t c14 h
                refine x_iconst (v := 0) (pc := 91) X dX9_heart_91 (by decide) ?_
                obtain rfl := Option.some.inj h
                exact x_iret (pc := 92) X dX9_heart_92
              · have h := ite_f c14 h
                refine x_iconst (v := 1) (pc := 87) X dX9_heart_87 (by decide) ?_
                refine x_goto (tgt := 92) (pc := 88) X dX9_heart_88 (by decide) ?_
                obtain rfl := Option.some.inj h
                exact x_iret (pc := 92) X dX9_heart_92
            · have h := ite_f cs1_5 h
              by_cases cs1_6 : i1 = 6
              · have h := ite_t cs1_6 h
                refine x_tsw (off := 92) (tgt := 93) (pc := 1) X 6 dX9_heart_1 cs1_6 (by decide) (by decide) (by decide) (by decide) ?_
                refine x_aload_n (pc := 93) X dX9_heart_93 (i := 0) rfl 0 rfl ?_
                refine x_aload_n (pc := 94) X dX9_heart_94 (i := 0) rfl 0 rfl ?_
                obtain ⟨q15, e15, h⟩ := nns h
                refine x_getr (ci := 9) (k := 11) (n := 26) (C := RX9) (T := TX9) (pc := 95) X dX9_heart_95 hk0 rfl (by decide) w_900 rfl e15 ?_
                obtain ⟨z16, e16, h⟩ := bnds h
                refine x_callV (pc := 98) (As := [.ref (cx.2.2 + q15)]) (st := []) (st' := [.int z16]) X (c_M_isAtDoor l cx nx N D P _ _ z16 e16) dX9_heart_98 w_1069 m_M_isAtDoor rfl hk0 (ci := 9) rfl rfl ⟨by decide, by decide⟩ ⟨Nat.zero_le _, Nat.zero_le _⟩ rfl (Nat.le_of_ble_eq_true rfl) rfl ?_
                refine x_if_eq (tgt := 108) (pc := 101) X dX9_heart_101 (by decide) (fun c17 => ?_) (fun c17 => ?_)
                · have h := ite_t c17 h
                  refine x_iconst (v := 0) (pc := 108) X dX9_heart_108 (by decide) ?_
                  obtain rfl := Option.some.inj h
                  exact x_iret (pc := 109) X dX9_heart_109
                · have h := ite_f c17 h
                  refine x_iconst (v := 1) (pc := 104) X dX9_heart_104 (by decide) ?_
                  refine x_goto (tgt := 109) (pc := 105) X dX9_heart_105 (by decide) ?_
                  obtain rfl := Option.some.inj h
                  exact x_iret (pc := 109) X dX9_heart_109
              · have h := ite_f cs1_6 h
                refine x_tswd (tgt := 110) (pc := 1) X dX9_heart_1 (sw_outg (lo := 0) (n := 7) (by decide) (by decide) rfl (fun k hk => ?_)) (by decide) ?_
                · rcases (show k = 0 ∨ k = 1 ∨ k = 2 ∨ k = 3 ∨ k = 4 ∨ k = 5 ∨ k = 6 by omega) with rfl | rfl | rfl | rfl | rfl | rfl | rfl
                  · exact fun y => cs1_0 (y.trans (by decide))
                  · exact fun y => cs1_1 (y.trans (by decide))
                  · exact fun y => cs1_2 (y.trans (by decide))
                  · exact fun y => cs1_3 (y.trans (by decide))
                  · exact fun y => cs1_4 (y.trans (by decide))
                  · exact fun y => cs1_5 (y.trans (by decide))
                  · exact fun y => cs1_6 (y.trans (by decide))
                · refine x_iconst (v := (-1)) (pc := 110) X dX9_heart_110 (by decide) ?_
                  obtain rfl := Option.some.inj h
                  exact x_iret (pc := 111) X dX9_heart_111
theorem dX9_know_0 : decode cX9_know 0 = .ok (.aload_n 0, 1) := by decide +kernel
theorem dX9_know_1 : decode cX9_know 1 = .ok (.getfield 133, 3) := by decide +kernel
theorem dX9_know_4 : decode cX9_know 4 = .ok (.bipush 8, 2) := by decide +kernel
theorem dX9_know_6 : decode cX9_know 6 = .ok (.if_icmp .ne 42, 3) := by decide +kernel
theorem dX9_know_9 : decode cX9_know 9 = .ok (.iconst 0, 1) := by decide +kernel
theorem dX9_know_10 : decode cX9_know 10 = .ok (.istore_n 1, 1) := by decide +kernel
theorem dX9_know_11 : decode cX9_know 11 = .ok (.iload_n 1, 1) := by decide +kernel
theorem dX9_know_12 : decode cX9_know 12 = .ok (.bipush 126, 2) := by decide +kernel
theorem dX9_know_14 : decode cX9_know 14 = .ok (.if_icmp .ge 24, 3) := by decide +kernel
theorem dX9_know_17 : decode cX9_know 17 = .ok (.aload_n 0, 1) := by decide +kernel
theorem dX9_know_18 : decode cX9_know 18 = .ok (.getfield 38, 3) := by decide +kernel
theorem dX9_know_21 : decode cX9_know 21 = .ok (.iload_n 1, 1) := by decide +kernel
theorem dX9_know_22 : decode cX9_know 22 = .ok (.aload_n 0, 1) := by decide +kernel
theorem dX9_know_23 : decode cX9_know 23 = .ok (.getfield 38, 3) := by decide +kernel
theorem dX9_know_26 : decode cX9_know 26 = .ok (.bipush 18, 2) := by decide +kernel
theorem dX9_know_28 : decode cX9_know 28 = .ok (.iload_n 1, 1) := by decide +kernel
theorem dX9_know_29 : decode cX9_know 29 = .ok (.iadd, 1) := by decide +kernel
theorem dX9_know_30 : decode cX9_know 30 = .ok (.iaload, 1) := by decide +kernel
theorem dX9_know_31 : decode cX9_know 31 = .ok (.iastore, 1) := by decide +kernel
theorem dX9_know_32 : decode cX9_know 32 = .ok (.iinc 1 1, 3) := by decide +kernel
theorem dX9_know_35 : decode cX9_know 35 = .ok (.goto (-24), 3) := by decide +kernel
theorem dX9_know_38 : decode cX9_know 38 = .ok (.aload_n 0, 1) := by decide +kernel
theorem dX9_know_39 : decode cX9_know 39 = .ok (.dup, 1) := by decide +kernel
theorem dX9_know_40 : decode cX9_know 40 = .ok (.getfield 133, 3) := by decide +kernel
theorem dX9_know_43 : decode cX9_know 43 = .ok (.iconst 1, 1) := by decide +kernel
theorem dX9_know_44 : decode cX9_know 44 = .ok (.isub, 1) := by decide +kernel
theorem dX9_know_45 : decode cX9_know 45 = .ok (.putfield 133, 3) := by decide +kernel
theorem dX9_know_48 : decode cX9_know 48 = .ok (.iconst 0, 1) := by decide +kernel
theorem dX9_know_49 : decode cX9_know 49 = .ok (.istore_n 1, 1) := by decide +kernel
theorem dX9_know_50 : decode cX9_know 50 = .ok (.iload_n 1, 1) := by decide +kernel
theorem dX9_know_51 : decode cX9_know 51 = .ok (.bipush 18, 2) := by decide +kernel
theorem dX9_know_53 : decode cX9_know 53 = .ok (.if_icmp .ge 29, 3) := by decide +kernel
theorem dX9_know_56 : decode cX9_know 56 = .ok (.aload_n 0, 1) := by decide +kernel
theorem dX9_know_57 : decode cX9_know 57 = .ok (.getfield 38, 3) := by decide +kernel
theorem dX9_know_60 : decode cX9_know 60 = .ok (.bipush 18, 2) := by decide +kernel
theorem dX9_know_62 : decode cX9_know 62 = .ok (.aload_n 0, 1) := by decide +kernel
theorem dX9_know_63 : decode cX9_know 63 = .ok (.getfield 133, 3) := by decide +kernel
theorem dX9_know_66 : decode cX9_know 66 = .ok (.imul, 1) := by decide +kernel
theorem dX9_know_67 : decode cX9_know 67 = .ok (.iload_n 1, 1) := by decide +kernel
theorem dX9_know_68 : decode cX9_know 68 = .ok (.iadd, 1) := by decide +kernel
theorem dX9_know_69 : decode cX9_know 69 = .ok (.aload_n 0, 1) := by decide +kernel
theorem dX9_know_70 : decode cX9_know 70 = .ok (.getfield 35, 3) := by decide +kernel
theorem dX9_know_73 : decode cX9_know 73 = .ok (.iload_n 1, 1) := by decide +kernel
theorem dX9_know_74 : decode cX9_know 74 = .ok (.iaload, 1) := by decide +kernel
theorem dX9_know_75 : decode cX9_know 75 = .ok (.iastore, 1) := by decide +kernel
theorem dX9_know_76 : decode cX9_know 76 = .ok (.iinc 1 1, 3) := by decide +kernel
theorem dX9_know_79 : decode cX9_know 79 = .ok (.goto (-29), 3) := by decide +kernel
theorem dX9_know_82 : decode cX9_know 82 = .ok (.aload_n 0, 1) := by decide +kernel
theorem dX9_know_83 : decode cX9_know 83 = .ok (.dup, 1) := by decide +kernel
theorem dX9_know_84 : decode cX9_know 84 = .ok (.getfield 133, 3) := by decide +kernel
theorem dX9_know_87 : decode cX9_know 87 = .ok (.iconst 1, 1) := by decide +kernel
theorem dX9_know_88 : decode cX9_know 88 = .ok (.iadd, 1) := by decide +kernel
theorem dX9_know_89 : decode cX9_know 89 = .ok (.putfield 133, 3) := by decide +kernel
theorem dX9_know_92 : decode cX9_know 92 = .ok (.return_, 1) := by decide +kernel
def f_M_know_50 (N nx : Nat) (P : Ft) (a0 : Nat) (rec50 : Dt → Int32 → Option Dt) (D : Dt) (i1 : Int32) : Option Dt :=
  if 18 ≤ i1 then
    pas (upd2 D a0 13 ((D a0 13) + 1)) fun D1 =>
    some D1
  else
    nn (P a0 12) fun q2 =>
    nn (P a0 11) fun q3 =>
    if ab nx q3 3 i1 = true then
    if ab nx q2 3 ((18 * (D a0 13)) + i1) = true then
    pas (upd2 D q2 ((18 * (D a0 13)) + i1).toNatClampNeg (D q3 i1.toNatClampNeg)) fun D5 =>
    rec50 D5 (i1 + 1)
    else none
    else none
def f_M_know_11 (N nx : Nat) (P : Ft) (a0 : Nat) (rec11 : Dt → Int32 → Option Dt) (D : Dt) (i1 : Int32) : Option Dt :=
  if 126 ≤ i1 then
    pas (upd2 D a0 13 ((D a0 13) - 1)) fun D7 =>
    wk2 N (f_M_know_50 N nx P a0) D7 0
  else
    nn (P a0 12) fun q8 =>
    if ab nx q8 3 (18 + i1) = true then
    if ab nx q8 3 i1 = true then
    pas (upd2 D q8 i1.toNatClampNeg (D q8 (18 + i1).toNatClampNeg)) fun D10 =>
    rec11 D10 (i1 + 1)
    else none
    else none
def f_M_know (N nx : Nat) (D : Dt) (P : Ft) (a0 : Nat) : Option Dt :=
  if kd nx a0 = 9 then
  if D a0 13 = 8 then
    wk2 N (f_M_know_11 N nx P a0) D 0
  else
    wk2 N (f_M_know_50 N nx P a0) D 0
  else none
theorem m_M_know : MV yX9_know cX9_know 2 none 0 := ⟨mT 1080 (by decide +kernel) rfl, mT 1079 (by decide +kernel) rfl, mT 40 (by decide +kernel) rfl, mT 68 (by decide +kernel) rfl, by decide +kernel, by decide +kernel, by decide +kernel⟩
set_option maxHeartbeats 4000000 in
set_option maxRecDepth 100000 in
theorem c_M_know (l : Launch) (cx : Cx) (nx N : Nat) (D : Dt) (P : Ft) (a0 : Nat) (z : Dt) (h : f_M_know N nx D P a0 = some z) : Ct l cx yX9_know cX9_know 2 none 0 [.ref (cx.2.2 + a0)] D P nx none z P := by
  refine x_met0 (by decide) (Nat.le_of_ble_eq_true rfl) ?_
  intro p e s m args below meth c X
  have X : XC p s m args meth c cx cX9_know 2 none "HeartPinsModel" "know" := X
  refine XW.sub (lv' := [(0, .ref (cx.2.2 + a0))]) [0] rfl ?_
  unfold f_M_know at h
  obtain ⟨hk0, h⟩ := grd h
  have hL50 : ∀ (n : Nat) (D : Dt) (i1 : Int32), wk2 n (f_M_know_50 N nx P a0) D i1 = some z → XW p l e (rmk 0) s m args below meth c (MQ below (Qx cx none z P nx) args s 0 0 (AA cx)) cx 2 D P nx 0 0 50 [(0, .ref (cx.2.2 + a0)), (1, .int i1)] [] := by
    intro n
    induction n with
    | zero => intro D i1 h; exact (nonz h).elim
    | succ n ih50 =>
      intro D i1 h
      have h : f_M_know_50 N nx P a0 (wk2 n (f_M_know_50 N nx P a0)) D i1 = some z := h
      generalize wk2 n (f_M_know_50 N nx P a0) = rec50 at ih50 h
      unfold f_M_know_50 at h
      refine x_iload_n (pc := 50) X dX9_know_50 (i := 1) rfl 1 rfl ?_
      refine x_bipush (v := 18) (pc := 51) X dX9_know_51 (by decide) ?_
      refine x_icmp_ge (tgt := 82) (pc := 53) X dX9_know_53 (by decide) (fun c6 => ?_) (fun c6 => ?_)
      · have h := ite_t c6 h
        refine x_aload_n (pc := 82) X dX9_know_82 (i := 0) rfl 0 rfl ?_
        refine x_dup (pc := 83) X dX9_know_83 rfl ?_
        refine x_geti (ci := 9) (k := 13) (n := 26) (C := RX9) (T := TX9) (pc := 84) X dX9_know_84 hk0 rfl (by decide) w_902 rfl ?_
        refine x_iconst (v := 1) (pc := 87) X dX9_know_87 (by decide) ?_
        refine x_iadd (pc := 88) X dX9_know_88 ?_
        obtain ⟨D1, w1, h⟩ := pass h
        refine x_puti (ci := 9) (k := 13) (n := 26) (C := RX9) (T := TX9) (D' := D1) (pc := 89) X dX9_know_89 hk0 rfl (by decide) w_902 rfl (by decide +kernel) rfl w1 ?_
        obtain rfl := Option.some.inj h
        exact x_vret (pc := 92) X dX9_know_92
      · have h := ite_f c6 h
        refine x_aload_n (pc := 56) X dX9_know_56 (i := 0) rfl 0 rfl ?_
        obtain ⟨q2, e2, h⟩ := nns h
        refine x_getr (ci := 9) (k := 12) (n := 26) (C := RX9) (T := TX9) (pc := 57) X dX9_know_57 hk0 rfl (by decide) w_901 rfl e2 ?_
        refine x_bipush (v := 18) (pc := 60) X dX9_know_60 (by decide) ?_
        refine x_aload_n (pc := 62) X dX9_know_62 (i := 0) rfl 0 rfl ?_
        refine x_geti (ci := 9) (k := 13) (n := 26) (C := RX9) (T := TX9) (pc := 63) X dX9_know_63 hk0 rfl (by decide) w_902 rfl ?_
        refine x_imul (pc := 66) X dX9_know_66 ?_
        refine x_iload_n (pc := 67) X dX9_know_67 (i := 1) rfl 1 rfl ?_
        refine x_iadd (pc := 68) X dX9_know_68 ?_
        refine x_aload_n (pc := 69) X dX9_know_69 (i := 0) rfl 0 rfl ?_
        obtain ⟨q3, e3, h⟩ := nns h
        refine x_getr (ci := 9) (k := 11) (n := 26) (C := RX9) (T := TX9) (pc := 70) X dX9_know_70 hk0 rfl (by decide) w_900 rfl e3 ?_
        refine x_iload_n (pc := 73) X dX9_know_73 (i := 1) rfl 1 rfl ?_
        obtain ⟨g4, h⟩ := grd h
        refine x_iald (pc := 74) X dX9_know_74 g4 ?_
        obtain ⟨g5, h⟩ := grd h
        obtain ⟨D5, w5, h⟩ := pass h
        refine x_iast (D' := D5) (pc := 75) X dX9_know_75 g5 w5 ?_
        refine x_iinc (v := i1 + 1) (lv' := [(1, .int (i1 + 1)), (0, .ref (cx.2.2 + a0))]) (pc := 76) X dX9_know_76 1 rfl rfl (by decide) rfl ?_
        refine x_goto (tgt := 50) (pc := 79) X dX9_know_79 (by decide) ?_
        exact XW.sub [1, 0] rfl (ih50 _ _ h)
  have hL11 : ∀ (n : Nat) (D : Dt) (i1 : Int32), wk2 n (f_M_know_11 N nx P a0) D i1 = some z → XW p l e (rmk 0) s m args below meth c (MQ below (Qx cx none z P nx) args s 0 0 (AA cx)) cx 2 D P nx 0 0 11 [(0, .ref (cx.2.2 + a0)), (1, .int i1)] [] := by
    intro n
    induction n with
    | zero => intro D i1 h; exact (nonz h).elim
    | succ n ih11 =>
      intro D i1 h
      have h : f_M_know_11 N nx P a0 (wk2 n (f_M_know_11 N nx P a0)) D i1 = some z := h
      generalize wk2 n (f_M_know_11 N nx P a0) = rec11 at ih11 h
      unfold f_M_know_11 at h
      refine x_iload_n (pc := 11) X dX9_know_11 (i := 1) rfl 1 rfl ?_
      refine x_bipush (v := 126) (pc := 12) X dX9_know_12 (by decide) ?_
      refine x_icmp_ge (tgt := 38) (pc := 14) X dX9_know_14 (by decide) (fun c11 => ?_) (fun c11 => ?_)
      · have h := ite_t c11 h
        refine x_aload_n (pc := 38) X dX9_know_38 (i := 0) rfl 0 rfl ?_
        refine x_dup (pc := 39) X dX9_know_39 rfl ?_
        refine x_geti (ci := 9) (k := 13) (n := 26) (C := RX9) (T := TX9) (pc := 40) X dX9_know_40 hk0 rfl (by decide) w_902 rfl ?_
        refine x_iconst (v := 1) (pc := 43) X dX9_know_43 (by decide) ?_
        refine x_isub (pc := 44) X dX9_know_44 ?_
        obtain ⟨D7, w7, h⟩ := pass h
        refine x_puti (ci := 9) (k := 13) (n := 26) (C := RX9) (T := TX9) (D' := D7) (pc := 45) X dX9_know_45 hk0 rfl (by decide) w_902 rfl (by decide +kernel) rfl w7 ?_
        refine x_iconst (v := 0) (pc := 48) X dX9_know_48 (by decide) ?_
        refine x_istore_n (lv' := [(1, .int 0), (0, .ref (cx.2.2 + a0))]) (pc := 49) X dX9_know_49 (i := 1) rfl (by decide) rfl ?_
        exact XW.sub [1, 0] rfl (hL50 _ _ _ h)
      · have h := ite_f c11 h
        refine x_aload_n (pc := 17) X dX9_know_17 (i := 0) rfl 0 rfl ?_
        obtain ⟨q8, e8, h⟩ := nns h
        refine x_getr (ci := 9) (k := 12) (n := 26) (C := RX9) (T := TX9) (pc := 18) X dX9_know_18 hk0 rfl (by decide) w_901 rfl e8 ?_
        refine x_iload_n (pc := 21) X dX9_know_21 (i := 1) rfl 1 rfl ?_
        refine x_aload_n (pc := 22) X dX9_know_22 (i := 0) rfl 0 rfl ?_
        refine x_getr (ci := 9) (k := 12) (n := 26) (C := RX9) (T := TX9) (pc := 23) X dX9_know_23 hk0 rfl (by decide) w_901 rfl e8 ?_
        refine x_bipush (v := 18) (pc := 26) X dX9_know_26 (by decide) ?_
        refine x_iload_n (pc := 28) X dX9_know_28 (i := 1) rfl 1 rfl ?_
        refine x_iadd (pc := 29) X dX9_know_29 ?_
        obtain ⟨g9, h⟩ := grd h
        refine x_iald (pc := 30) X dX9_know_30 g9 ?_
        obtain ⟨g10, h⟩ := grd h
        obtain ⟨D10, w10, h⟩ := pass h
        refine x_iast (D' := D10) (pc := 31) X dX9_know_31 g10 w10 ?_
        refine x_iinc (v := i1 + 1) (lv' := [(1, .int (i1 + 1)), (0, .ref (cx.2.2 + a0))]) (pc := 32) X dX9_know_32 1 rfl rfl (by decide) rfl ?_
        refine x_goto (tgt := 11) (pc := 35) X dX9_know_35 (by decide) ?_
        exact XW.sub [1, 0] rfl (ih11 _ _ h)
  refine x_aload_n (pc := 0) X dX9_know_0 (i := 0) rfl 0 rfl ?_
  refine x_geti (ci := 9) (k := 13) (n := 26) (C := RX9) (T := TX9) (pc := 1) X dX9_know_1 hk0 rfl (by decide) w_902 rfl ?_
  refine x_bipush (v := 8) (pc := 4) X dX9_know_4 (by decide) ?_
  refine x_icmp_ne (tgt := 48) (pc := 6) X dX9_know_6 (by decide) (fun c12 => ?_) (fun c12 => ?_)
  · have h := ite_f c12 h
    refine x_iconst (v := 0) (pc := 48) X dX9_know_48 (by decide) ?_
    refine x_istore_n (lv' := [(1, .int 0), (0, .ref (cx.2.2 + a0))]) (pc := 49) X dX9_know_49 (i := 1) rfl (by decide) rfl ?_
    exact XW.sub [1, 0] rfl (hL50 _ _ _ h)
  · have h := ite_t c12 h
    refine x_iconst (v := 0) (pc := 9) X dX9_know_9 (by decide) ?_
    refine x_istore_n (lv' := [(1, .int 0), (0, .ref (cx.2.2 + a0))]) (pc := 10) X dX9_know_10 (i := 1) rfl (by decide) rfl ?_
    exact XW.sub [1, 0] rfl (hL11 _ _ _ h)
theorem dX9_stick_0 : decode cX9_stick 0 = .ok (.aload_n 0, 1) := by decide +kernel
theorem dX9_stick_1 : decode cX9_stick 1 = .ok (.iload_n 1, 1) := by decide +kernel
theorem dX9_stick_2 : decode cX9_stick 2 = .ok (.invokevirtual 178, 3) := by decide +kernel
theorem dX9_stick_5 : decode cX9_stick 5 = .ok (.ifCond .ne 5, 3) := by decide +kernel
theorem dX9_stick_8 : decode cX9_stick 8 = .ok (.iconst (-1), 1) := by decide +kernel
theorem dX9_stick_9 : decode cX9_stick 9 = .ok (.ireturn, 1) := by decide +kernel
theorem dX9_stick_10 : decode cX9_stick 10 = .ok (.aload_n 0, 1) := by decide +kernel
theorem dX9_stick_11 : decode cX9_stick 11 = .ok (.getfield 35, 3) := by decide +kernel
theorem dX9_stick_14 : decode cX9_stick 14 = .ok (.iload_n 1, 1) := by decide +kernel
theorem dX9_stick_15 : decode cX9_stick 15 = .ok (.invokestatic 145, 3) := by decide +kernel
theorem dX9_stick_18 : decode cX9_stick 18 = .ok (.ifCond .eq 14, 3) := by decide +kernel
theorem dX9_stick_21 : decode cX9_stick 21 = .ok (.aload_n 0, 1) := by decide +kernel
theorem dX9_stick_22 : decode cX9_stick 22 = .ok (.aload_n 0, 1) := by decide +kernel
theorem dX9_stick_23 : decode cX9_stick 23 = .ok (.getfield 35, 3) := by decide +kernel
theorem dX9_stick_26 : decode cX9_stick 26 = .ok (.invokevirtual 181, 3) := by decide +kernel
theorem dX9_stick_29 : decode cX9_stick 29 = .ok (.ifCond .eq 6, 3) := by decide +kernel
theorem dX9_stick_32 : decode cX9_stick 32 = .ok (.bipush (-2), 2) := by decide +kernel
theorem dX9_stick_34 : decode cX9_stick 34 = .ok (.ireturn, 1) := by decide +kernel
theorem dX9_stick_35 : decode cX9_stick 35 = .ok (.aload_n 0, 1) := by decide +kernel
theorem dX9_stick_36 : decode cX9_stick 36 = .ok (.invokevirtual 184, 3) := by decide +kernel
theorem dX9_stick_39 : decode cX9_stick 39 = .ok (.aload_n 0, 1) := by decide +kernel
theorem dX9_stick_40 : decode cX9_stick 40 = .ok (.getfield 35, 3) := by decide +kernel
theorem dX9_stick_43 : decode cX9_stick 43 = .ok (.iconst 2, 1) := by decide +kernel
theorem dX9_stick_44 : decode cX9_stick 44 = .ok (.iload_n 1, 1) := by decide +kernel
theorem dX9_stick_45 : decode cX9_stick 45 = .ok (.iadd, 1) := by decide +kernel
theorem dX9_stick_46 : decode cX9_stick 46 = .ok (.iconst 5, 1) := by decide +kernel
theorem dX9_stick_47 : decode cX9_stick 47 = .ok (.iastore, 1) := by decide +kernel
theorem dX9_stick_48 : decode cX9_stick 48 = .ok (.aload_n 0, 1) := by decide +kernel
theorem dX9_stick_49 : decode cX9_stick 49 = .ok (.aload_n 0, 1) := by decide +kernel
theorem dX9_stick_50 : decode cX9_stick 50 = .ok (.getfield 35, 3) := by decide +kernel
theorem dX9_stick_53 : decode cX9_stick 53 = .ok (.aload_n 0, 1) := by decide +kernel
theorem dX9_stick_54 : decode cX9_stick 54 = .ok (.aload_n 0, 1) := by decide +kernel
theorem dX9_stick_55 : decode cX9_stick 55 = .ok (.getfield 35, 3) := by decide +kernel
theorem dX9_stick_58 : decode cX9_stick 58 = .ok (.iconst 5, 1) := by decide +kernel
theorem dX9_stick_59 : decode cX9_stick 59 = .ok (.invokevirtual 153, 3) := by decide +kernel
theorem dX9_stick_62 : decode cX9_stick 62 = .ok (.invokevirtual 157, 3) := by decide +kernel
theorem dX9_stick_65 : decode cX9_stick 65 = .ok (.ireturn, 1) := by decide +kernel
def f_M_stick (N nx : Nat) (D : Dt) (P : Ft) (a0 : Nat) (i1 : Int32) : Option (Int32 × Dt) :=
  if kd nx a0 = 9 then
  (f_M_isPin N nx D P a0 i1).bind fun z1 =>
  if z1 = 0 then
    some ((-1), D)
  else
    nn (P a0 11) fun q2 =>
    (f_M_isBorne N nx D P q2 i1).bind fun z3 =>
    if z3 = 0 then
      some ((-2), D)
    else
      (f_M_isAtDoor N nx D P a0 q2).bind fun z4 =>
      if z4 = 0 then
        (f_M_know N nx D P a0).bind fun z5 =>
        if ab nx q2 3 (2 + i1) = true then
        pas (upd2 z5 q2 (2 + i1).toNatClampNeg 5) fun D6 =>
        (f_M_those N nx D6 P a0 q2 5).bind fun z7 =>
        (f_M_sizeOf N nx D6 P a0 q2 z7).bind fun z8 =>
        some (z8, D6)
        else none
      else
        some ((-2), D)
  else none
theorem m_M_stick : MV yX9_stick cX9_stick 2 (some .int) 1 := ⟨mT 1076 (by decide +kernel) rfl, mT 1074 (by decide +kernel) rfl, mT 1075 (by decide +kernel) rfl, mT 68 (by decide +kernel) rfl, by decide +kernel, by decide +kernel, by decide +kernel⟩
set_option maxHeartbeats 4000000 in
set_option maxRecDepth 100000 in
theorem c_M_stick (l : Launch) (cx : Cx) (nx N : Nat) (D : Dt) (P : Ft) (a0 : Nat) (i1 : Int32) (z : Int32 × Dt) (h : f_M_stick N nx D P a0 i1 = some z) : Ct l cx yX9_stick cX9_stick 2 (some .int) 2 [.ref (cx.2.2 + a0), .int i1] D P nx (some (.int z.1)) z.2 P := by
  refine x_met0 (by decide) (Nat.le_of_ble_eq_true rfl) ?_
  intro p e s m args below meth c X
  have X : XC p s m args meth c cx cX9_stick 2 (some .int) "HeartPinsModel" "stick" := X
  refine XW.sub (lv' := [(0, .ref (cx.2.2 + a0)), (1, .int i1)]) [0, 1] rfl ?_
  unfold f_M_stick at h
  obtain ⟨hk0, h⟩ := grd h
  refine x_aload_n (pc := 0) X dX9_stick_0 (i := 0) rfl 0 rfl ?_
  refine x_iload_n (pc := 1) X dX9_stick_1 (i := 1) rfl 1 rfl ?_
  obtain ⟨z1, e1, h⟩ := bnds h
  refine x_callV (pc := 2) (As := [.int i1]) (st := []) (st' := [.int z1]) X (c_M_isPin l cx nx N D P _ _ z1 e1) dX9_stick_2 w_1054 m_M_isPin rfl hk0 (ci := 9) rfl rfl ⟨by decide, by decide⟩ ⟨Nat.zero_le _, Nat.zero_le _⟩ rfl (Nat.le_of_ble_eq_true rfl) rfl ?_
  refine x_if_ne (tgt := 10) (pc := 5) X dX9_stick_5 (by decide) (fun c11 => ?_) (fun c11 => ?_)
  · have h := ite_f c11 h
    refine x_aload_n (pc := 10) X dX9_stick_10 (i := 0) rfl 0 rfl ?_
    obtain ⟨q2, e2, h⟩ := nns h
    refine x_getr (ci := 9) (k := 11) (n := 26) (C := RX9) (T := TX9) (pc := 11) X dX9_stick_11 hk0 rfl (by decide) w_900 rfl e2 ?_
    refine x_iload_n (pc := 14) X dX9_stick_14 (i := 1) rfl 1 rfl ?_
    obtain ⟨z3, e3, h⟩ := bnds h
    refine x_callS (pc := 15) (As := [.ref (cx.2.2 + q2), .int i1]) (st := []) (st' := [.int z3]) X (c_M_isBorne l cx nx N D P _ _ z3 e3) dX9_stick_15 w_1058 m_M_isBorne rfl ⟨by decide, by decide⟩ ⟨Nat.zero_le _, Nat.zero_le _⟩ rfl (Nat.le_of_ble_eq_true rfl) rfl ?_
    refine x_if_eq (tgt := 32) (pc := 18) X dX9_stick_18 (by decide) (fun c10 => ?_) (fun c10 => ?_)
    · have h := ite_t c10 h
      refine x_bipush (v := (-2)) (pc := 32) X dX9_stick_32 (by decide) ?_
      obtain rfl := Option.some.inj h
      exact x_iret (pc := 34) X dX9_stick_34
    · have h := ite_f c10 h
      refine x_aload_n (pc := 21) X dX9_stick_21 (i := 0) rfl 0 rfl ?_
      refine x_aload_n (pc := 22) X dX9_stick_22 (i := 0) rfl 0 rfl ?_
      refine x_getr (ci := 9) (k := 11) (n := 26) (C := RX9) (T := TX9) (pc := 23) X dX9_stick_23 hk0 rfl (by decide) w_900 rfl e2 ?_
      obtain ⟨z4, e4, h⟩ := bnds h
      refine x_callV (pc := 26) (As := [.ref (cx.2.2 + q2)]) (st := []) (st' := [.int z4]) X (c_M_isAtDoor l cx nx N D P _ _ z4 e4) dX9_stick_26 w_1069 m_M_isAtDoor rfl hk0 (ci := 9) rfl rfl ⟨by decide, by decide⟩ ⟨Nat.zero_le _, Nat.zero_le _⟩ rfl (Nat.le_of_ble_eq_true rfl) rfl ?_
      refine x_if_eq (tgt := 35) (pc := 29) X dX9_stick_29 (by decide) (fun c9 => ?_) (fun c9 => ?_)
      · have h := ite_t c9 h
        refine x_aload_n (pc := 35) X dX9_stick_35 (i := 0) rfl 0 rfl ?_
        obtain ⟨z5, e5, h⟩ := bnds h
        refine x_callV (pc := 36) (As := []) (st := []) (st' := []) X (c_M_know l cx nx N D P _ z5 e5) dX9_stick_36 w_1077 m_M_know rfl hk0 (ci := 9) rfl rfl ⟨by decide, by decide⟩ ⟨Nat.zero_le _, Nat.zero_le _⟩ rfl (Nat.le_of_ble_eq_true rfl) rfl ?_
        refine x_aload_n (pc := 39) X dX9_stick_39 (i := 0) rfl 0 rfl ?_
        refine x_getr (ci := 9) (k := 11) (n := 26) (C := RX9) (T := TX9) (pc := 40) X dX9_stick_40 hk0 rfl (by decide) w_900 rfl e2 ?_
        refine x_iconst (v := 2) (pc := 43) X dX9_stick_43 (by decide) ?_
        refine x_iload_n (pc := 44) X dX9_stick_44 (i := 1) rfl 1 rfl ?_
        refine x_iadd (pc := 45) X dX9_stick_45 ?_
        refine x_iconst (v := 5) (pc := 46) X dX9_stick_46 (by decide) ?_
        obtain ⟨g6, h⟩ := grd h
        obtain ⟨D6, w6, h⟩ := pass h
        refine x_iast (D' := D6) (pc := 47) X dX9_stick_47 g6 w6 ?_
        refine x_aload_n (pc := 48) X dX9_stick_48 (i := 0) rfl 0 rfl ?_
        refine x_aload_n (pc := 49) X dX9_stick_49 (i := 0) rfl 0 rfl ?_
        refine x_getr (ci := 9) (k := 11) (n := 26) (C := RX9) (T := TX9) (pc := 50) X dX9_stick_50 hk0 rfl (by decide) w_900 rfl e2 ?_
        refine x_aload_n (pc := 53) X dX9_stick_53 (i := 0) rfl 0 rfl ?_
        refine x_aload_n (pc := 54) X dX9_stick_54 (i := 0) rfl 0 rfl ?_
        refine x_getr (ci := 9) (k := 11) (n := 26) (C := RX9) (T := TX9) (pc := 55) X dX9_stick_55 hk0 rfl (by decide) w_900 rfl e2 ?_
        refine x_iconst (v := 5) (pc := 58) X dX9_stick_58 (by decide) ?_
        obtain ⟨z7, e7, h⟩ := bnds h
        refine x_callV (pc := 59) (As := [.ref (cx.2.2 + q2), .int 5]) (st := [.ref (cx.2.2 + q2), .ref (cx.2.2 + a0)]) (st' := [.int z7, .ref (cx.2.2 + q2), .ref (cx.2.2 + a0)]) X (c_M_those l cx nx N D6 P _ _ _ z7 e7) dX9_stick_59 w_1035 m_M_those rfl hk0 (ci := 9) rfl rfl ⟨by decide, by decide⟩ ⟨Nat.zero_le _, Nat.zero_le _⟩ rfl (Nat.le_of_ble_eq_true rfl) rfl ?_
        obtain ⟨z8, e8, h⟩ := bnds h
        refine x_callV (pc := 62) (As := [.ref (cx.2.2 + q2), .int z7]) (st := []) (st' := [.int z8]) X (c_M_sizeOf l cx nx N D6 P _ _ _ z8 e8) dX9_stick_62 w_1039 m_M_sizeOf rfl hk0 (ci := 9) rfl rfl ⟨by decide, by decide⟩ ⟨Nat.zero_le _, Nat.zero_le _⟩ rfl (Nat.le_of_ble_eq_true rfl) rfl ?_
        obtain rfl := Option.some.inj h
        exact x_iret (pc := 65) X dX9_stick_65
      · have h := ite_f c9 h
        refine x_bipush (v := (-2)) (pc := 32) X dX9_stick_32 (by decide) ?_
        obtain rfl := Option.some.inj h
        exact x_iret (pc := 34) X dX9_stick_34
  · have h := ite_t c11 h
    refine x_iconst (v := (-1)) (pc := 8) X dX9_stick_8 (by decide) ?_
    obtain rfl := Option.some.inj h
    exact x_iret (pc := 9) X dX9_stick_9
theorem dX9_feel_0 : decode cX9_feel 0 = .ok (.aload_n 0, 1) := by decide +kernel
theorem dX9_feel_1 : decode cX9_feel 1 = .ok (.iload_n 1, 1) := by decide +kernel
theorem dX9_feel_2 : decode cX9_feel 2 = .ok (.invokevirtual 178, 3) := by decide +kernel
theorem dX9_feel_5 : decode cX9_feel 5 = .ok (.ifCond .eq 11, 3) := by decide +kernel
theorem dX9_feel_8 : decode cX9_feel 8 = .ok (.aload_n 0, 1) := by decide +kernel
theorem dX9_feel_9 : decode cX9_feel 9 = .ok (.iload_n 2, 1) := by decide +kernel
theorem dX9_feel_10 : decode cX9_feel 10 = .ok (.invokevirtual 174, 3) := by decide +kernel
theorem dX9_feel_13 : decode cX9_feel 13 = .ok (.ifCond .ne 5, 3) := by decide +kernel
theorem dX9_feel_16 : decode cX9_feel 16 = .ok (.iconst (-1), 1) := by decide +kernel
theorem dX9_feel_17 : decode cX9_feel 17 = .ok (.ireturn, 1) := by decide +kernel
theorem dX9_feel_18 : decode cX9_feel 18 = .ok (.aload_n 0, 1) := by decide +kernel
theorem dX9_feel_19 : decode cX9_feel 19 = .ok (.getfield 35, 3) := by decide +kernel
theorem dX9_feel_22 : decode cX9_feel 22 = .ok (.iconst 2, 1) := by decide +kernel
theorem dX9_feel_23 : decode cX9_feel 23 = .ok (.iload_n 1, 1) := by decide +kernel
theorem dX9_feel_24 : decode cX9_feel 24 = .ok (.iadd, 1) := by decide +kernel
theorem dX9_feel_25 : decode cX9_feel 25 = .ok (.iaload, 1) := by decide +kernel
theorem dX9_feel_26 : decode cX9_feel 26 = .ok (.iconst 5, 1) := by decide +kernel
theorem dX9_feel_27 : decode cX9_feel 27 = .ok (.if_icmp .eq 6, 3) := by decide +kernel
theorem dX9_feel_30 : decode cX9_feel 30 = .ok (.bipush (-2), 2) := by decide +kernel
theorem dX9_feel_32 : decode cX9_feel 32 = .ok (.ireturn, 1) := by decide +kernel
theorem dX9_feel_33 : decode cX9_feel 33 = .ok (.aload_n 0, 1) := by decide +kernel
theorem dX9_feel_34 : decode cX9_feel 34 = .ok (.invokevirtual 184, 3) := by decide +kernel
theorem dX9_feel_37 : decode cX9_feel 37 = .ok (.aload_n 0, 1) := by decide +kernel
theorem dX9_feel_38 : decode cX9_feel 38 = .ok (.getfield 35, 3) := by decide +kernel
theorem dX9_feel_41 : decode cX9_feel 41 = .ok (.iconst 2, 1) := by decide +kernel
theorem dX9_feel_42 : decode cX9_feel 42 = .ok (.iload_n 1, 1) := by decide +kernel
theorem dX9_feel_43 : decode cX9_feel 43 = .ok (.iadd, 1) := by decide +kernel
theorem dX9_feel_44 : decode cX9_feel 44 = .ok (.iload_n 2, 1) := by decide +kernel
theorem dX9_feel_45 : decode cX9_feel 45 = .ok (.iastore, 1) := by decide +kernel
theorem dX9_feel_46 : decode cX9_feel 46 = .ok (.aload_n 0, 1) := by decide +kernel
theorem dX9_feel_47 : decode cX9_feel 47 = .ok (.aload_n 0, 1) := by decide +kernel
theorem dX9_feel_48 : decode cX9_feel 48 = .ok (.getfield 35, 3) := by decide +kernel
theorem dX9_feel_51 : decode cX9_feel 51 = .ok (.iload_n 2, 1) := by decide +kernel
theorem dX9_feel_52 : decode cX9_feel 52 = .ok (.invokevirtual 160, 3) := by decide +kernel
theorem dX9_feel_55 : decode cX9_feel 55 = .ok (.ireturn, 1) := by decide +kernel
def f_M_feel (N nx : Nat) (D : Dt) (P : Ft) (a0 : Nat) (i1 : Int32) (i2 : Int32) : Option (Int32 × Dt) :=
  if kd nx a0 = 9 then
  (f_M_isPin N nx D P a0 i1).bind fun z1 =>
  if z1 = 0 then
    some ((-1), D)
  else
    (f_M_isPerson N nx D P a0 i2).bind fun z2 =>
    if z2 = 0 then
      some ((-1), D)
    else
      nn (P a0 11) fun q3 =>
      if ab nx q3 3 (2 + i1) = true then
      if D q3 (2 + i1).toNatClampNeg = 5 then
        (f_M_know N nx D P a0).bind fun z5 =>
        if ab nx q3 3 (2 + i1) = true then
        pas (upd2 z5 q3 (2 + i1).toNatClampNeg i2) fun D6 =>
        (f_M_load N nx D6 P a0 q3 i2).bind fun z7 =>
        some (z7, D6)
        else none
      else
        some ((-2), D)
      else none
  else none
theorem m_M_feel : MV yX9_feel cX9_feel 3 (some .int) 2 := ⟨mT 1084 (by decide +kernel) rfl, mT 1082 (by decide +kernel) rfl, mT 1083 (by decide +kernel) rfl, mT 68 (by decide +kernel) rfl, by decide +kernel, by decide +kernel, by decide +kernel⟩
set_option maxHeartbeats 4000000 in
set_option maxRecDepth 100000 in
theorem c_M_feel (l : Launch) (cx : Cx) (nx N : Nat) (D : Dt) (P : Ft) (a0 : Nat) (i1 : Int32) (i2 : Int32) (z : Int32 × Dt) (h : f_M_feel N nx D P a0 i1 i2 = some z) : Ct l cx yX9_feel cX9_feel 3 (some .int) 3 [.ref (cx.2.2 + a0), .int i1, .int i2] D P nx (some (.int z.1)) z.2 P := by
  refine x_met0 (by decide) (Nat.le_of_ble_eq_true rfl) ?_
  intro p e s m args below meth c X
  have X : XC p s m args meth c cx cX9_feel 3 (some .int) "HeartPinsModel" "feel" := X
  refine XW.sub (lv' := [(0, .ref (cx.2.2 + a0)), (1, .int i1), (2, .int i2)]) [0, 1, 2] rfl ?_
  unfold f_M_feel at h
  obtain ⟨hk0, h⟩ := grd h
  refine x_aload_n (pc := 0) X dX9_feel_0 (i := 0) rfl 0 rfl ?_
  refine x_iload_n (pc := 1) X dX9_feel_1 (i := 1) rfl 1 rfl ?_
  obtain ⟨z1, e1, h⟩ := bnds h
  refine x_callV (pc := 2) (As := [.int i1]) (st := []) (st' := [.int z1]) X (c_M_isPin l cx nx N D P _ _ z1 e1) dX9_feel_2 w_1054 m_M_isPin rfl hk0 (ci := 9) rfl rfl ⟨by decide, by decide⟩ ⟨Nat.zero_le _, Nat.zero_le _⟩ rfl (Nat.le_of_ble_eq_true rfl) rfl ?_
  refine x_if_eq (tgt := 16) (pc := 5) X dX9_feel_5 (by decide) (fun c10 => ?_) (fun c10 => ?_)
  · have h := ite_t c10 h
    refine x_iconst (v := (-1)) (pc := 16) X dX9_feel_16 (by decide) ?_
    obtain rfl := Option.some.inj h
    exact x_iret (pc := 17) X dX9_feel_17
  · have h := ite_f c10 h
    refine x_aload_n (pc := 8) X dX9_feel_8 (i := 0) rfl 0 rfl ?_
    refine x_iload_n (pc := 9) X dX9_feel_9 (i := 2) rfl 2 rfl ?_
    obtain ⟨z2, e2, h⟩ := bnds h
    refine x_callV (pc := 10) (As := [.int i2]) (st := []) (st' := [.int z2]) X (c_M_isPerson l cx nx N D P _ _ z2 e2) dX9_feel_10 w_1027 m_M_isPerson rfl hk0 (ci := 9) rfl rfl ⟨by decide, by decide⟩ ⟨Nat.zero_le _, Nat.zero_le _⟩ rfl (Nat.le_of_ble_eq_true rfl) rfl ?_
    refine x_if_ne (tgt := 18) (pc := 13) X dX9_feel_13 (by decide) (fun c9 => ?_) (fun c9 => ?_)
    · have h := ite_f c9 h
      refine x_aload_n (pc := 18) X dX9_feel_18 (i := 0) rfl 0 rfl ?_
      obtain ⟨q3, e3, h⟩ := nns h
      refine x_getr (ci := 9) (k := 11) (n := 26) (C := RX9) (T := TX9) (pc := 19) X dX9_feel_19 hk0 rfl (by decide) w_900 rfl e3 ?_
      refine x_iconst (v := 2) (pc := 22) X dX9_feel_22 (by decide) ?_
      refine x_iload_n (pc := 23) X dX9_feel_23 (i := 1) rfl 1 rfl ?_
      refine x_iadd (pc := 24) X dX9_feel_24 ?_
      obtain ⟨g4, h⟩ := grd h
      refine x_iald (pc := 25) X dX9_feel_25 g4 ?_
      refine x_iconst (v := 5) (pc := 26) X dX9_feel_26 (by decide) ?_
      refine x_icmp_eq (tgt := 33) (pc := 27) X dX9_feel_27 (by decide) (fun c8 => ?_) (fun c8 => ?_)
      · have h := ite_t c8 h
        refine x_aload_n (pc := 33) X dX9_feel_33 (i := 0) rfl 0 rfl ?_
        obtain ⟨z5, e5, h⟩ := bnds h
        refine x_callV (pc := 34) (As := []) (st := []) (st' := []) X (c_M_know l cx nx N D P _ z5 e5) dX9_feel_34 w_1077 m_M_know rfl hk0 (ci := 9) rfl rfl ⟨by decide, by decide⟩ ⟨Nat.zero_le _, Nat.zero_le _⟩ rfl (Nat.le_of_ble_eq_true rfl) rfl ?_
        refine x_aload_n (pc := 37) X dX9_feel_37 (i := 0) rfl 0 rfl ?_
        refine x_getr (ci := 9) (k := 11) (n := 26) (C := RX9) (T := TX9) (pc := 38) X dX9_feel_38 hk0 rfl (by decide) w_900 rfl e3 ?_
        refine x_iconst (v := 2) (pc := 41) X dX9_feel_41 (by decide) ?_
        refine x_iload_n (pc := 42) X dX9_feel_42 (i := 1) rfl 1 rfl ?_
        refine x_iadd (pc := 43) X dX9_feel_43 ?_
        refine x_iload_n (pc := 44) X dX9_feel_44 (i := 2) rfl 2 rfl ?_
        obtain ⟨g6, h⟩ := grd h
        obtain ⟨D6, w6, h⟩ := pass h
        refine x_iast (D' := D6) (pc := 45) X dX9_feel_45 g6 w6 ?_
        refine x_aload_n (pc := 46) X dX9_feel_46 (i := 0) rfl 0 rfl ?_
        refine x_aload_n (pc := 47) X dX9_feel_47 (i := 0) rfl 0 rfl ?_
        refine x_getr (ci := 9) (k := 11) (n := 26) (C := RX9) (T := TX9) (pc := 48) X dX9_feel_48 hk0 rfl (by decide) w_900 rfl e3 ?_
        refine x_iload_n (pc := 51) X dX9_feel_51 (i := 2) rfl 2 rfl ?_
        obtain ⟨z7, e7, h⟩ := bnds h
        refine x_callV (pc := 52) (As := [.ref (cx.2.2 + q3), .int i2]) (st := []) (st' := [.int z7]) X (c_M_load l cx nx N D6 P _ _ _ z7 e7) dX9_feel_52 w_1031 m_M_load rfl hk0 (ci := 9) rfl rfl ⟨by decide, by decide⟩ ⟨Nat.zero_le _, Nat.zero_le _⟩ rfl (Nat.le_of_ble_eq_true rfl) rfl ?_
        obtain rfl := Option.some.inj h
        exact x_iret (pc := 55) X dX9_feel_55
      · have h := ite_f c8 h
        refine x_bipush (v := (-2)) (pc := 30) X dX9_feel_30 (by decide) ?_
        obtain rfl := Option.some.inj h
        exact x_iret (pc := 32) X dX9_feel_32
    · have h := ite_t c9 h
      refine x_iconst (v := (-1)) (pc := 16) X dX9_feel_16 (by decide) ?_
      obtain rfl := Option.some.inj h
      exact x_iret (pc := 17) X dX9_feel_17
theorem dX9_bear_0 : decode cX9_bear 0 = .ok (.aload_n 0, 1) := by decide +kernel
theorem dX9_bear_1 : decode cX9_bear 1 = .ok (.iload_n 1, 1) := by decide +kernel
theorem dX9_bear_2 : decode cX9_bear 2 = .ok (.invokevirtual 178, 3) := by decide +kernel
theorem dX9_bear_5 : decode cX9_bear 5 = .ok (.ifCond .eq 11, 3) := by decide +kernel
theorem dX9_bear_8 : decode cX9_bear 8 = .ok (.aload_n 0, 1) := by decide +kernel
theorem dX9_bear_9 : decode cX9_bear 9 = .ok (.iload_n 2, 1) := by decide +kernel
theorem dX9_bear_10 : decode cX9_bear 10 = .ok (.invokevirtual 174, 3) := by decide +kernel
theorem dX9_bear_13 : decode cX9_bear 13 = .ok (.ifCond .ne 5, 3) := by decide +kernel
theorem dX9_bear_16 : decode cX9_bear 16 = .ok (.iconst (-1), 1) := by decide +kernel
theorem dX9_bear_17 : decode cX9_bear 17 = .ok (.ireturn, 1) := by decide +kernel
theorem dX9_bear_18 : decode cX9_bear 18 = .ok (.aload_n 0, 1) := by decide +kernel
theorem dX9_bear_19 : decode cX9_bear 19 = .ok (.getfield 35, 3) := by decide +kernel
theorem dX9_bear_22 : decode cX9_bear 22 = .ok (.iconst 2, 1) := by decide +kernel
theorem dX9_bear_23 : decode cX9_bear 23 = .ok (.iload_n 1, 1) := by decide +kernel
theorem dX9_bear_24 : decode cX9_bear 24 = .ok (.iadd, 1) := by decide +kernel
theorem dX9_bear_25 : decode cX9_bear 25 = .ok (.iaload, 1) := by decide +kernel
theorem dX9_bear_26 : decode cX9_bear 26 = .ok (.istore_n 3, 1) := by decide +kernel
theorem dX9_bear_27 : decode cX9_bear 27 = .ok (.aload_n 0, 1) := by decide +kernel
theorem dX9_bear_28 : decode cX9_bear 28 = .ok (.getfield 35, 3) := by decide +kernel
theorem dX9_bear_31 : decode cX9_bear 31 = .ok (.iload_n 1, 1) := by decide +kernel
theorem dX9_bear_32 : decode cX9_bear 32 = .ok (.invokestatic 145, 3) := by decide +kernel
theorem dX9_bear_35 : decode cX9_bear 35 = .ok (.ifCond .eq 8, 3) := by decide +kernel
theorem dX9_bear_38 : decode cX9_bear 38 = .ok (.iload_n 3, 1) := by decide +kernel
theorem dX9_bear_39 : decode cX9_bear 39 = .ok (.iload_n 2, 1) := by decide +kernel
theorem dX9_bear_40 : decode cX9_bear 40 = .ok (.if_icmp .ne 6, 3) := by decide +kernel
theorem dX9_bear_43 : decode cX9_bear 43 = .ok (.bipush (-2), 2) := by decide +kernel
theorem dX9_bear_45 : decode cX9_bear 45 = .ok (.ireturn, 1) := by decide +kernel
theorem dX9_bear_46 : decode cX9_bear 46 = .ok (.aload_n 0, 1) := by decide +kernel
theorem dX9_bear_47 : decode cX9_bear 47 = .ok (.invokevirtual 184, 3) := by decide +kernel
theorem dX9_bear_50 : decode cX9_bear 50 = .ok (.aload_n 0, 1) := by decide +kernel
theorem dX9_bear_51 : decode cX9_bear 51 = .ok (.getfield 35, 3) := by decide +kernel
theorem dX9_bear_54 : decode cX9_bear 54 = .ok (.iconst 2, 1) := by decide +kernel
theorem dX9_bear_55 : decode cX9_bear 55 = .ok (.iload_n 1, 1) := by decide +kernel
theorem dX9_bear_56 : decode cX9_bear 56 = .ok (.iadd, 1) := by decide +kernel
theorem dX9_bear_57 : decode cX9_bear 57 = .ok (.iload_n 2, 1) := by decide +kernel
theorem dX9_bear_58 : decode cX9_bear 58 = .ok (.iastore, 1) := by decide +kernel
theorem dX9_bear_59 : decode cX9_bear 59 = .ok (.iload_n 3, 1) := by decide +kernel
theorem dX9_bear_60 : decode cX9_bear 60 = .ok (.ireturn, 1) := by decide +kernel
def f_M_bear (N nx : Nat) (D : Dt) (P : Ft) (a0 : Nat) (i1 : Int32) (i2 : Int32) : Option (Int32 × Dt) :=
  if kd nx a0 = 9 then
  (f_M_isPin N nx D P a0 i1).bind fun z1 =>
  if z1 = 0 then
    some ((-1), D)
  else
    (f_M_isPerson N nx D P a0 i2).bind fun z2 =>
    if z2 = 0 then
      some ((-1), D)
    else
      nn (P a0 11) fun q3 =>
      if ab nx q3 3 (2 + i1) = true then
      (f_M_isBorne N nx D P q3 i1).bind fun z5 =>
      if z5 = 0 then
        some ((-2), D)
      else
        if D q3 (2 + i1).toNatClampNeg = i2 then
          some ((-2), D)
        else
          (f_M_know N nx D P a0).bind fun z6 =>
          if ab nx q3 3 (2 + i1) = true then
          pas (upd2 z6 q3 (2 + i1).toNatClampNeg i2) fun D7 =>
          some (D q3 (2 + i1).toNatClampNeg, D7)
          else none
      else none
  else none
theorem m_M_bear : MV yX9_bear cX9_bear 4 (some .int) 2 := ⟨mT 1088 (by decide +kernel) rfl, mT 1086 (by decide +kernel) rfl, mT 1087 (by decide +kernel) rfl, mT 68 (by decide +kernel) rfl, by decide +kernel, by decide +kernel, by decide +kernel⟩
set_option maxHeartbeats 4000000 in
set_option maxRecDepth 100000 in
theorem c_M_bear (l : Launch) (cx : Cx) (nx N : Nat) (D : Dt) (P : Ft) (a0 : Nat) (i1 : Int32) (i2 : Int32) (z : Int32 × Dt) (h : f_M_bear N nx D P a0 i1 i2 = some z) : Ct l cx yX9_bear cX9_bear 4 (some .int) 2 [.ref (cx.2.2 + a0), .int i1, .int i2] D P nx (some (.int z.1)) z.2 P := by
  refine x_met0 (by decide) (Nat.le_of_ble_eq_true rfl) ?_
  intro p e s m args below meth c X
  have X : XC p s m args meth c cx cX9_bear 4 (some .int) "HeartPinsModel" "bear" := X
  refine XW.sub (lv' := [(0, .ref (cx.2.2 + a0)), (1, .int i1), (2, .int i2)]) [0, 1, 2] rfl ?_
  unfold f_M_bear at h
  obtain ⟨hk0, h⟩ := grd h
  refine x_aload_n (pc := 0) X dX9_bear_0 (i := 0) rfl 0 rfl ?_
  refine x_iload_n (pc := 1) X dX9_bear_1 (i := 1) rfl 1 rfl ?_
  obtain ⟨z1, e1, h⟩ := bnds h
  refine x_callV (pc := 2) (As := [.int i1]) (st := []) (st' := [.int z1]) X (c_M_isPin l cx nx N D P _ _ z1 e1) dX9_bear_2 w_1054 m_M_isPin rfl hk0 (ci := 9) rfl rfl ⟨by decide, by decide⟩ ⟨Nat.zero_le _, Nat.zero_le _⟩ rfl (Nat.le_of_ble_eq_true rfl) rfl ?_
  refine x_if_eq (tgt := 16) (pc := 5) X dX9_bear_5 (by decide) (fun c11 => ?_) (fun c11 => ?_)
  · have h := ite_t c11 h
    refine x_iconst (v := (-1)) (pc := 16) X dX9_bear_16 (by decide) ?_
    obtain rfl := Option.some.inj h
    exact x_iret (pc := 17) X dX9_bear_17
  · have h := ite_f c11 h
    refine x_aload_n (pc := 8) X dX9_bear_8 (i := 0) rfl 0 rfl ?_
    refine x_iload_n (pc := 9) X dX9_bear_9 (i := 2) rfl 2 rfl ?_
    obtain ⟨z2, e2, h⟩ := bnds h
    refine x_callV (pc := 10) (As := [.int i2]) (st := []) (st' := [.int z2]) X (c_M_isPerson l cx nx N D P _ _ z2 e2) dX9_bear_10 w_1027 m_M_isPerson rfl hk0 (ci := 9) rfl rfl ⟨by decide, by decide⟩ ⟨Nat.zero_le _, Nat.zero_le _⟩ rfl (Nat.le_of_ble_eq_true rfl) rfl ?_
    refine x_if_ne (tgt := 18) (pc := 13) X dX9_bear_13 (by decide) (fun c10 => ?_) (fun c10 => ?_)
    · have h := ite_f c10 h
      refine x_aload_n (pc := 18) X dX9_bear_18 (i := 0) rfl 0 rfl ?_
      obtain ⟨q3, e3, h⟩ := nns h
      refine x_getr (ci := 9) (k := 11) (n := 26) (C := RX9) (T := TX9) (pc := 19) X dX9_bear_19 hk0 rfl (by decide) w_900 rfl e3 ?_
      refine x_iconst (v := 2) (pc := 22) X dX9_bear_22 (by decide) ?_
      refine x_iload_n (pc := 23) X dX9_bear_23 (i := 1) rfl 1 rfl ?_
      refine x_iadd (pc := 24) X dX9_bear_24 ?_
      obtain ⟨g4, h⟩ := grd h
      refine x_iald (pc := 25) X dX9_bear_25 g4 ?_
      refine x_istore_n (lv' := [(3, .int (D q3 (2 + i1).toNatClampNeg)), (0, .ref (cx.2.2 + a0)), (1, .int i1), (2, .int i2)]) (pc := 26) X dX9_bear_26 (i := 3) rfl (by decide) rfl ?_
      refine x_aload_n (pc := 27) X dX9_bear_27 (i := 0) rfl 1 rfl ?_
      refine x_getr (ci := 9) (k := 11) (n := 26) (C := RX9) (T := TX9) (pc := 28) X dX9_bear_28 hk0 rfl (by decide) w_900 rfl e3 ?_
      refine x_iload_n (pc := 31) X dX9_bear_31 (i := 1) rfl 2 rfl ?_
      obtain ⟨z5, e5, h⟩ := bnds h
      refine x_callS (pc := 32) (As := [.ref (cx.2.2 + q3), .int i1]) (st := []) (st' := [.int z5]) X (c_M_isBorne l cx nx N D P _ _ z5 e5) dX9_bear_32 w_1058 m_M_isBorne rfl ⟨by decide, by decide⟩ ⟨Nat.zero_le _, Nat.zero_le _⟩ rfl (Nat.le_of_ble_eq_true rfl) rfl ?_
      refine x_if_eq (tgt := 43) (pc := 35) X dX9_bear_35 (by decide) (fun c9 => ?_) (fun c9 => ?_)
      · have h := ite_t c9 h
        refine x_bipush (v := (-2)) (pc := 43) X dX9_bear_43 (by decide) ?_
        obtain rfl := Option.some.inj h
        exact x_iret (pc := 45) X dX9_bear_45
      · have h := ite_f c9 h
        refine x_iload_n (pc := 38) X dX9_bear_38 (i := 3) rfl 0 rfl ?_
        refine x_iload_n (pc := 39) X dX9_bear_39 (i := 2) rfl 3 rfl ?_
        refine x_icmp_ne (tgt := 46) (pc := 40) X dX9_bear_40 (by decide) (fun c8 => ?_) (fun c8 => ?_)
        · have h := ite_f c8 h
          refine x_aload_n (pc := 46) X dX9_bear_46 (i := 0) rfl 1 rfl ?_
          obtain ⟨z6, e6, h⟩ := bnds h
          refine x_callV (pc := 47) (As := []) (st := []) (st' := []) X (c_M_know l cx nx N D P _ z6 e6) dX9_bear_47 w_1077 m_M_know rfl hk0 (ci := 9) rfl rfl ⟨by decide, by decide⟩ ⟨Nat.zero_le _, Nat.zero_le _⟩ rfl (Nat.le_of_ble_eq_true rfl) rfl ?_
          refine x_aload_n (pc := 50) X dX9_bear_50 (i := 0) rfl 1 rfl ?_
          refine x_getr (ci := 9) (k := 11) (n := 26) (C := RX9) (T := TX9) (pc := 51) X dX9_bear_51 hk0 rfl (by decide) w_900 rfl e3 ?_
          refine x_iconst (v := 2) (pc := 54) X dX9_bear_54 (by decide) ?_
          refine x_iload_n (pc := 55) X dX9_bear_55 (i := 1) rfl 2 rfl ?_
          refine x_iadd (pc := 56) X dX9_bear_56 ?_
          refine x_iload_n (pc := 57) X dX9_bear_57 (i := 2) rfl 3 rfl ?_
          obtain ⟨g7, h⟩ := grd h
          obtain ⟨D7, w7, h⟩ := pass h
          refine x_iast (D' := D7) (pc := 58) X dX9_bear_58 g7 w7 ?_
          refine x_iload_n (pc := 59) X dX9_bear_59 (i := 3) rfl 0 rfl ?_
          obtain rfl := Option.some.inj h
          exact x_iret (pc := 60) X dX9_bear_60
        · have h := ite_t c8 h
          refine x_bipush (v := (-2)) (pc := 43) X dX9_bear_43 (by decide) ?_
          obtain rfl := Option.some.inj h
          exact x_iret (pc := 45) X dX9_bear_45
    · have h := ite_t c10 h
      refine x_iconst (v := (-1)) (pc := 16) X dX9_bear_16 (by decide) ?_
      obtain rfl := Option.some.inj h
      exact x_iret (pc := 17) X dX9_bear_17
theorem dX9_pass_0 : decode cX9_pass 0 = .ok (.iload_n 1, 1) := by decide +kernel
theorem dX9_pass_1 : decode cX9_pass 1 = .ok (.iconst 1, 1) := by decide +kernel
theorem dX9_pass_2 : decode cX9_pass 2 = .ok (.bipush 24, 2) := by decide +kernel
theorem dX9_pass_4 : decode cX9_pass 4 = .ok (.invokestatic 74, 3) := by decide +kernel
theorem dX9_pass_7 : decode cX9_pass 7 = .ok (.ifCond .ne 5, 3) := by decide +kernel
theorem dX9_pass_10 : decode cX9_pass 10 = .ok (.iconst (-1), 1) := by decide +kernel
theorem dX9_pass_11 : decode cX9_pass 11 = .ok (.ireturn, 1) := by decide +kernel
theorem dX9_pass_12 : decode cX9_pass 12 = .ok (.aload_n 0, 1) := by decide +kernel
theorem dX9_pass_13 : decode cX9_pass 13 = .ok (.invokevirtual 184, 3) := by decide +kernel
theorem dX9_pass_16 : decode cX9_pass 16 = .ok (.iconst 0, 1) := by decide +kernel
theorem dX9_pass_17 : decode cX9_pass 17 = .ok (.istore_n 2, 1) := by decide +kernel
theorem dX9_pass_18 : decode cX9_pass 18 = .ok (.iload_n 2, 1) := by decide +kernel
theorem dX9_pass_19 : decode cX9_pass 19 = .ok (.iload_n 1, 1) := by decide +kernel
theorem dX9_pass_20 : decode cX9_pass 20 = .ok (.if_icmp .ge 17, 3) := by decide +kernel
theorem dX9_pass_23 : decode cX9_pass 23 = .ok (.aload_n 0, 1) := by decide +kernel
theorem dX9_pass_24 : decode cX9_pass 24 = .ok (.aload_n 0, 1) := by decide +kernel
theorem dX9_pass_25 : decode cX9_pass 25 = .ok (.getfield 35, 3) := by decide +kernel
theorem dX9_pass_28 : decode cX9_pass 28 = .ok (.invokevirtual 187, 3) := by decide +kernel
theorem dX9_pass_31 : decode cX9_pass 31 = .ok (.iinc 2 1, 3) := by decide +kernel
theorem dX9_pass_34 : decode cX9_pass 34 = .ok (.goto (-16), 3) := by decide +kernel
theorem dX9_pass_37 : decode cX9_pass 37 = .ok (.aload_n 0, 1) := by decide +kernel
theorem dX9_pass_38 : decode cX9_pass 38 = .ok (.getfield 35, 3) := by decide +kernel
theorem dX9_pass_41 : decode cX9_pass 41 = .ok (.iconst 0, 1) := by decide +kernel
theorem dX9_pass_42 : decode cX9_pass 42 = .ok (.iaload, 1) := by decide +kernel
theorem dX9_pass_43 : decode cX9_pass 43 = .ok (.ireturn, 1) := by decide +kernel
def f_M_pass_18 (N nx : Nat) (P : Ft) (a0 : Nat) (i1 : Int32) (rec18 : Dt → Int32 → Option (Int32 × Dt)) (D : Dt) (i2 : Int32) : Option (Int32 × Dt) :=
  if i1 ≤ i2 then
    nn (P a0 11) fun q3 =>
    if ab nx q3 3 0 = true then
    some (D q3 (0 : Int32).toNatClampNeg, D)
    else none
  else
    nn (P a0 11) fun q5 =>
    (f_M_passOn N nx D P a0 q5).bind fun z6 =>
    rec18 z6 (i2 + 1)
def f_M_pass (N nx : Nat) (D : Dt) (P : Ft) (a0 : Nat) (i1 : Int32) : Option (Int32 × Dt) :=
  if kd nx a0 = 9 then
  (f_M_in N nx D P i1 1 24).bind fun z1 =>
  if z1 = 0 then
    some ((-1), D)
  else
    (f_M_know N nx D P a0).bind fun z2 =>
    wk2 N (f_M_pass_18 N nx P a0 i1) z2 0
  else none
theorem m_M_pass : MV yX9_pass cX9_pass 3 (some .int) 1 := ⟨mT 1092 (by decide +kernel) rfl, mT 1090 (by decide +kernel) rfl, mT 1091 (by decide +kernel) rfl, mT 68 (by decide +kernel) rfl, by decide +kernel, by decide +kernel, by decide +kernel⟩
set_option maxHeartbeats 4000000 in
set_option maxRecDepth 100000 in
theorem c_M_pass (l : Launch) (cx : Cx) (nx N : Nat) (D : Dt) (P : Ft) (a0 : Nat) (i1 : Int32) (z : Int32 × Dt) (h : f_M_pass N nx D P a0 i1 = some z) : Ct l cx yX9_pass cX9_pass 3 (some .int) 4 [.ref (cx.2.2 + a0), .int i1] D P nx (some (.int z.1)) z.2 P := by
  refine x_met0 (by decide) (Nat.le_of_ble_eq_true rfl) ?_
  intro p e s m args below meth c X
  have X : XC p s m args meth c cx cX9_pass 3 (some .int) "HeartPinsModel" "pass" := X
  refine XW.sub (lv' := [(0, .ref (cx.2.2 + a0)), (1, .int i1)]) [0, 1] rfl ?_
  unfold f_M_pass at h
  obtain ⟨hk0, h⟩ := grd h
  have hL18 : ∀ (n : Nat) (D : Dt) (i2 : Int32), wk2 n (f_M_pass_18 N nx P a0 i1) D i2 = some z → XW p l e (rmk 4) s m args below meth c (MQ below (Qx cx (some (.int z.1)) z.2 P nx) args s 0 0 (AA cx)) cx 3 D P nx 0 0 18 [(0, .ref (cx.2.2 + a0)), (1, .int i1), (2, .int i2)] [] := by
    intro n
    induction n with
    | zero => intro D i2 h; exact (nonz h).elim
    | succ n ih18 =>
      intro D i2 h
      have h : f_M_pass_18 N nx P a0 i1 (wk2 n (f_M_pass_18 N nx P a0 i1)) D i2 = some z := h
      generalize wk2 n (f_M_pass_18 N nx P a0 i1) = rec18 at ih18 h
      unfold f_M_pass_18 at h
      refine x_iload_n (pc := 18) X dX9_pass_18 (i := 2) rfl 2 rfl ?_
      refine x_iload_n (pc := 19) X dX9_pass_19 (i := 1) rfl 1 rfl ?_
      refine x_icmp_ge (tgt := 37) (pc := 20) X dX9_pass_20 (by decide) (fun c7 => ?_) (fun c7 => ?_)
      · have h := ite_t c7 h
        refine x_aload_n (pc := 37) X dX9_pass_37 (i := 0) rfl 0 rfl ?_
        obtain ⟨q3, e3, h⟩ := nns h
        refine x_getr (ci := 9) (k := 11) (n := 26) (C := RX9) (T := TX9) (pc := 38) X dX9_pass_38 hk0 rfl (by decide) w_900 rfl e3 ?_
        refine x_iconst (v := 0) (pc := 41) X dX9_pass_41 (by decide) ?_
        obtain ⟨g4, h⟩ := grd h
        refine x_iald (pc := 42) X dX9_pass_42 g4 ?_
        obtain rfl := Option.some.inj h
        exact x_iret (pc := 43) X dX9_pass_43
      · have h := ite_f c7 h
        refine x_aload_n (pc := 23) X dX9_pass_23 (i := 0) rfl 0 rfl ?_
        refine x_aload_n (pc := 24) X dX9_pass_24 (i := 0) rfl 0 rfl ?_
        obtain ⟨q5, e5, h⟩ := nns h
        refine x_getr (ci := 9) (k := 11) (n := 26) (C := RX9) (T := TX9) (pc := 25) X dX9_pass_25 hk0 rfl (by decide) w_900 rfl e5 ?_
        obtain ⟨z6, e6, h⟩ := bnds h
        refine x_callV (pc := 28) (As := [.ref (cx.2.2 + q5)]) (st := []) (st' := []) X (c_M_passOn l cx nx N D P _ _ z6 e6) dX9_pass_28 w_1093 m_M_passOn rfl hk0 (ci := 9) rfl rfl ⟨by decide, by decide⟩ ⟨Nat.zero_le _, Nat.zero_le _⟩ rfl (Nat.le_of_ble_eq_true rfl) rfl ?_
        refine x_iinc (v := i2 + 1) (lv' := [(2, .int (i2 + 1)), (0, .ref (cx.2.2 + a0)), (1, .int i1)]) (pc := 31) X dX9_pass_31 2 rfl rfl (by decide) rfl ?_
        refine x_goto (tgt := 18) (pc := 34) X dX9_pass_34 (by decide) ?_
        exact XW.sub [1, 2, 0] rfl (ih18 _ _ h)
  refine x_iload_n (pc := 0) X dX9_pass_0 (i := 1) rfl 1 rfl ?_
  refine x_iconst (v := 1) (pc := 1) X dX9_pass_1 (by decide) ?_
  refine x_bipush (v := 24) (pc := 2) X dX9_pass_2 (by decide) ?_
  obtain ⟨z1, e1, h⟩ := bnds h
  refine x_callS (pc := 4) (As := [.int i1, .int 1, .int 24]) (st := []) (st' := [.int z1]) X (c_M_in l cx nx N D P _ _ _ z1 e1) dX9_pass_4 w_972 m_M_in rfl ⟨by decide, by decide⟩ ⟨Nat.zero_le _, Nat.zero_le _⟩ rfl (Nat.le_of_ble_eq_true rfl) rfl ?_
  refine x_if_ne (tgt := 12) (pc := 7) X dX9_pass_7 (by decide) (fun c8 => ?_) (fun c8 => ?_)
  · have h := ite_f c8 h
    refine x_aload_n (pc := 12) X dX9_pass_12 (i := 0) rfl 0 rfl ?_
    obtain ⟨z2, e2, h⟩ := bnds h
    refine x_callV (pc := 13) (As := []) (st := []) (st' := []) X (c_M_know l cx nx N D P _ z2 e2) dX9_pass_13 w_1077 m_M_know rfl hk0 (ci := 9) rfl rfl ⟨by decide, by decide⟩ ⟨Nat.zero_le _, Nat.zero_le _⟩ rfl (Nat.le_of_ble_eq_true rfl) rfl ?_
    refine x_iconst (v := 0) (pc := 16) X dX9_pass_16 (by decide) ?_
    refine x_istore_n (lv' := [(2, .int 0), (0, .ref (cx.2.2 + a0)), (1, .int i1)]) (pc := 17) X dX9_pass_17 (i := 2) rfl (by decide) rfl ?_
    exact XW.sub [1, 2, 0] rfl (hL18 _ _ _ h)
  · have h := ite_t c8 h
    refine x_iconst (v := (-1)) (pc := 10) X dX9_pass_10 (by decide) ?_
    obtain rfl := Option.some.inj h
    exact x_iret (pc := 11) X dX9_pass_11
theorem dX9_undo_0 : decode cX9_undo 0 = .ok (.aload_n 0, 1) := by decide +kernel
theorem dX9_undo_1 : decode cX9_undo 1 = .ok (.getfield 133, 3) := by decide +kernel
theorem dX9_undo_4 : decode cX9_undo 4 = .ok (.ifCond .ne 6, 3) := by decide +kernel
theorem dX9_undo_7 : decode cX9_undo 7 = .ok (.bipush (-2), 2) := by decide +kernel
theorem dX9_undo_9 : decode cX9_undo 9 = .ok (.ireturn, 1) := by decide +kernel
theorem dX9_undo_10 : decode cX9_undo 10 = .ok (.aload_n 0, 1) := by decide +kernel
theorem dX9_undo_11 : decode cX9_undo 11 = .ok (.dup, 1) := by decide +kernel
theorem dX9_undo_12 : decode cX9_undo 12 = .ok (.getfield 133, 3) := by decide +kernel
theorem dX9_undo_15 : decode cX9_undo 15 = .ok (.iconst 1, 1) := by decide +kernel
theorem dX9_undo_16 : decode cX9_undo 16 = .ok (.isub, 1) := by decide +kernel
theorem dX9_undo_17 : decode cX9_undo 17 = .ok (.putfield 133, 3) := by decide +kernel
theorem dX9_undo_20 : decode cX9_undo 20 = .ok (.iconst 0, 1) := by decide +kernel
theorem dX9_undo_21 : decode cX9_undo 21 = .ok (.istore_n 1, 1) := by decide +kernel
theorem dX9_undo_22 : decode cX9_undo 22 = .ok (.iload_n 1, 1) := by decide +kernel
theorem dX9_undo_23 : decode cX9_undo 23 = .ok (.bipush 18, 2) := by decide +kernel
theorem dX9_undo_25 : decode cX9_undo 25 = .ok (.if_icmp .ge 29, 3) := by decide +kernel
theorem dX9_undo_28 : decode cX9_undo 28 = .ok (.aload_n 0, 1) := by decide +kernel
theorem dX9_undo_29 : decode cX9_undo 29 = .ok (.getfield 35, 3) := by decide +kernel
theorem dX9_undo_32 : decode cX9_undo 32 = .ok (.iload_n 1, 1) := by decide +kernel
theorem dX9_undo_33 : decode cX9_undo 33 = .ok (.aload_n 0, 1) := by decide +kernel
theorem dX9_undo_34 : decode cX9_undo 34 = .ok (.getfield 38, 3) := by decide +kernel
theorem dX9_undo_37 : decode cX9_undo 37 = .ok (.bipush 18, 2) := by decide +kernel
theorem dX9_undo_39 : decode cX9_undo 39 = .ok (.aload_n 0, 1) := by decide +kernel
theorem dX9_undo_40 : decode cX9_undo 40 = .ok (.getfield 133, 3) := by decide +kernel
theorem dX9_undo_43 : decode cX9_undo 43 = .ok (.imul, 1) := by decide +kernel
theorem dX9_undo_44 : decode cX9_undo 44 = .ok (.iload_n 1, 1) := by decide +kernel
theorem dX9_undo_45 : decode cX9_undo 45 = .ok (.iadd, 1) := by decide +kernel
theorem dX9_undo_46 : decode cX9_undo 46 = .ok (.iaload, 1) := by decide +kernel
theorem dX9_undo_47 : decode cX9_undo 47 = .ok (.iastore, 1) := by decide +kernel
theorem dX9_undo_48 : decode cX9_undo 48 = .ok (.iinc 1 1, 3) := by decide +kernel
theorem dX9_undo_51 : decode cX9_undo 51 = .ok (.goto (-29), 3) := by decide +kernel
theorem dX9_undo_54 : decode cX9_undo 54 = .ok (.aload_n 0, 1) := by decide +kernel
theorem dX9_undo_55 : decode cX9_undo 55 = .ok (.getfield 133, 3) := by decide +kernel
theorem dX9_undo_58 : decode cX9_undo 58 = .ok (.ireturn, 1) := by decide +kernel
def f_M_undo_22 (N nx : Nat) (P : Ft) (a0 : Nat) (rec22 : Dt → Int32 → Option (Int32 × Dt)) (D : Dt) (i1 : Int32) : Option (Int32 × Dt) :=
  if 18 ≤ i1 then
    some (D a0 13, D)
  else
    nn (P a0 11) fun q2 =>
    nn (P a0 12) fun q3 =>
    if ab nx q3 3 ((18 * (D a0 13)) + i1) = true then
    if ab nx q2 3 i1 = true then
    pas (upd2 D q2 i1.toNatClampNeg (D q3 ((18 * (D a0 13)) + i1).toNatClampNeg)) fun D5 =>
    rec22 D5 (i1 + 1)
    else none
    else none
def f_M_undo (N nx : Nat) (D : Dt) (P : Ft) (a0 : Nat) : Option (Int32 × Dt) :=
  if kd nx a0 = 9 then
  if D a0 13 = 0 then
    some ((-2), D)
  else
    pas (upd2 D a0 13 ((D a0 13) - 1)) fun D1 =>
    wk2 N (f_M_undo_22 N nx P a0) D1 0
  else none
theorem m_M_undo : MV yX9_undo cX9_undo 2 (some .int) 0 := ⟨mT 1103 (by decide +kernel) rfl, mT 1101 (by decide +kernel) rfl, mT 1102 (by decide +kernel) rfl, mT 68 (by decide +kernel) rfl, by decide +kernel, by decide +kernel, by decide +kernel⟩
set_option maxHeartbeats 4000000 in
set_option maxRecDepth 100000 in
theorem c_M_undo (l : Launch) (cx : Cx) (nx N : Nat) (D : Dt) (P : Ft) (a0 : Nat) (z : Int32 × Dt) (h : f_M_undo N nx D P a0 = some z) : Ct l cx yX9_undo cX9_undo 2 (some .int) 0 [.ref (cx.2.2 + a0)] D P nx (some (.int z.1)) z.2 P := by
  refine x_met0 (by decide) (Nat.le_of_ble_eq_true rfl) ?_
  intro p e s m args below meth c X
  have X : XC p s m args meth c cx cX9_undo 2 (some .int) "HeartPinsModel" "undo" := X
  refine XW.sub (lv' := [(0, .ref (cx.2.2 + a0))]) [0] rfl ?_
  unfold f_M_undo at h
  obtain ⟨hk0, h⟩ := grd h
  have hL22 : ∀ (n : Nat) (D : Dt) (i1 : Int32), wk2 n (f_M_undo_22 N nx P a0) D i1 = some z → XW p l e (rmk 0) s m args below meth c (MQ below (Qx cx (some (.int z.1)) z.2 P nx) args s 0 0 (AA cx)) cx 2 D P nx 0 0 22 [(0, .ref (cx.2.2 + a0)), (1, .int i1)] [] := by
    intro n
    induction n with
    | zero => intro D i1 h; exact (nonz h).elim
    | succ n ih22 =>
      intro D i1 h
      have h : f_M_undo_22 N nx P a0 (wk2 n (f_M_undo_22 N nx P a0)) D i1 = some z := h
      generalize wk2 n (f_M_undo_22 N nx P a0) = rec22 at ih22 h
      unfold f_M_undo_22 at h
      refine x_iload_n (pc := 22) X dX9_undo_22 (i := 1) rfl 1 rfl ?_
      refine x_bipush (v := 18) (pc := 23) X dX9_undo_23 (by decide) ?_
      refine x_icmp_ge (tgt := 54) (pc := 25) X dX9_undo_25 (by decide) (fun c6 => ?_) (fun c6 => ?_)
      · have h := ite_t c6 h
        refine x_aload_n (pc := 54) X dX9_undo_54 (i := 0) rfl 0 rfl ?_
        refine x_geti (ci := 9) (k := 13) (n := 26) (C := RX9) (T := TX9) (pc := 55) X dX9_undo_55 hk0 rfl (by decide) w_902 rfl ?_
        obtain rfl := Option.some.inj h
        exact x_iret (pc := 58) X dX9_undo_58
      · have h := ite_f c6 h
        refine x_aload_n (pc := 28) X dX9_undo_28 (i := 0) rfl 0 rfl ?_
        obtain ⟨q2, e2, h⟩ := nns h
        refine x_getr (ci := 9) (k := 11) (n := 26) (C := RX9) (T := TX9) (pc := 29) X dX9_undo_29 hk0 rfl (by decide) w_900 rfl e2 ?_
        refine x_iload_n (pc := 32) X dX9_undo_32 (i := 1) rfl 1 rfl ?_
        refine x_aload_n (pc := 33) X dX9_undo_33 (i := 0) rfl 0 rfl ?_
        obtain ⟨q3, e3, h⟩ := nns h
        refine x_getr (ci := 9) (k := 12) (n := 26) (C := RX9) (T := TX9) (pc := 34) X dX9_undo_34 hk0 rfl (by decide) w_901 rfl e3 ?_
        refine x_bipush (v := 18) (pc := 37) X dX9_undo_37 (by decide) ?_
        refine x_aload_n (pc := 39) X dX9_undo_39 (i := 0) rfl 0 rfl ?_
        refine x_geti (ci := 9) (k := 13) (n := 26) (C := RX9) (T := TX9) (pc := 40) X dX9_undo_40 hk0 rfl (by decide) w_902 rfl ?_
        refine x_imul (pc := 43) X dX9_undo_43 ?_
        refine x_iload_n (pc := 44) X dX9_undo_44 (i := 1) rfl 1 rfl ?_
        refine x_iadd (pc := 45) X dX9_undo_45 ?_
        obtain ⟨g4, h⟩ := grd h
        refine x_iald (pc := 46) X dX9_undo_46 g4 ?_
        obtain ⟨g5, h⟩ := grd h
        obtain ⟨D5, w5, h⟩ := pass h
        refine x_iast (D' := D5) (pc := 47) X dX9_undo_47 g5 w5 ?_
        refine x_iinc (v := i1 + 1) (lv' := [(1, .int (i1 + 1)), (0, .ref (cx.2.2 + a0))]) (pc := 48) X dX9_undo_48 1 rfl rfl (by decide) rfl ?_
        refine x_goto (tgt := 22) (pc := 51) X dX9_undo_51 (by decide) ?_
        exact XW.sub [1, 0] rfl (ih22 _ _ h)
  refine x_aload_n (pc := 0) X dX9_undo_0 (i := 0) rfl 0 rfl ?_
  refine x_geti (ci := 9) (k := 13) (n := 26) (C := RX9) (T := TX9) (pc := 1) X dX9_undo_1 hk0 rfl (by decide) w_902 rfl ?_
  refine x_if_ne (tgt := 10) (pc := 4) X dX9_undo_4 (by decide) (fun c7 => ?_) (fun c7 => ?_)
  · have h := ite_f c7 h
    refine x_aload_n (pc := 10) X dX9_undo_10 (i := 0) rfl 0 rfl ?_
    refine x_dup (pc := 11) X dX9_undo_11 rfl ?_
    refine x_geti (ci := 9) (k := 13) (n := 26) (C := RX9) (T := TX9) (pc := 12) X dX9_undo_12 hk0 rfl (by decide) w_902 rfl ?_
    refine x_iconst (v := 1) (pc := 15) X dX9_undo_15 (by decide) ?_
    refine x_isub (pc := 16) X dX9_undo_16 ?_
    obtain ⟨D1, w1, h⟩ := pass h
    refine x_puti (ci := 9) (k := 13) (n := 26) (C := RX9) (T := TX9) (D' := D1) (pc := 17) X dX9_undo_17 hk0 rfl (by decide) w_902 rfl (by decide +kernel) rfl w1 ?_
    refine x_iconst (v := 0) (pc := 20) X dX9_undo_20 (by decide) ?_
    refine x_istore_n (lv' := [(1, .int 0), (0, .ref (cx.2.2 + a0))]) (pc := 21) X dX9_undo_21 (i := 1) rfl (by decide) rfl ?_
    exact XW.sub [1, 0] rfl (hL22 _ _ _ h)
  · have h := ite_t c7 h
    refine x_bipush (v := (-2)) (pc := 7) X dX9_undo_7 (by decide) ?_
    obtain rfl := Option.some.inj h
    exact x_iret (pc := 9) X dX9_undo_9
theorem dX9_goOn_0 : decode cX9_goOn 0 = .ok (.aload_n 0, 1) := by decide +kernel
theorem dX9_goOn_1 : decode cX9_goOn 1 = .ok (.invokevirtual 191, 3) := by decide +kernel
theorem dX9_goOn_4 : decode cX9_goOn 4 = .ok (.iconst 0, 1) := by decide +kernel
theorem dX9_goOn_5 : decode cX9_goOn 5 = .ok (.istore_n 2, 1) := by decide +kernel
theorem dX9_goOn_6 : decode cX9_goOn 6 = .ok (.iload_n 2, 1) := by decide +kernel
theorem dX9_goOn_7 : decode cX9_goOn 7 = .ok (.iload_n 1, 1) := by decide +kernel
theorem dX9_goOn_8 : decode cX9_goOn 8 = .ok (.if_icmp .ge 17, 3) := by decide +kernel
theorem dX9_goOn_11 : decode cX9_goOn 11 = .ok (.aload_n 0, 1) := by decide +kernel
theorem dX9_goOn_12 : decode cX9_goOn 12 = .ok (.aload_n 0, 1) := by decide +kernel
theorem dX9_goOn_13 : decode cX9_goOn 13 = .ok (.getfield 44, 3) := by decide +kernel
theorem dX9_goOn_16 : decode cX9_goOn 16 = .ok (.invokevirtual 187, 3) := by decide +kernel
theorem dX9_goOn_19 : decode cX9_goOn 19 = .ok (.iinc 2 1, 3) := by decide +kernel
theorem dX9_goOn_22 : decode cX9_goOn 22 = .ok (.goto (-16), 3) := by decide +kernel
theorem dX9_goOn_25 : decode cX9_goOn 25 = .ok (.return_, 1) := by decide +kernel
def f_M_goOn_6 (N nx : Nat) (P : Ft) (a0 : Nat) (i1 : Int32) (rec6 : Dt → Int32 → Option Dt) (D : Dt) (i2 : Int32) : Option Dt :=
  if i1 ≤ i2 then
    some D
  else
    nn (P a0 16) fun q2 =>
    (f_M_passOn N nx D P a0 q2).bind fun z3 =>
    rec6 z3 (i2 + 1)
def f_M_goOn (N nx : Nat) (D : Dt) (P : Ft) (a0 : Nat) (i1 : Int32) : Option Dt :=
  if kd nx a0 = 9 then
  (f_M_take N nx D P a0).bind fun z1 =>
  wk2 N (f_M_goOn_6 N nx P a0 i1) z1 0
  else none
theorem m_M_goOn : MV yX9_goOn cX9_goOn 3 none 1 := ⟨mT 1111 (by decide +kernel) rfl, mT 1110 (by decide +kernel) rfl, mT 42 (by decide +kernel) rfl, mT 68 (by decide +kernel) rfl, by decide +kernel, by decide +kernel, by decide +kernel⟩
set_option maxHeartbeats 4000000 in
set_option maxRecDepth 100000 in
theorem c_M_goOn (l : Launch) (cx : Cx) (nx N : Nat) (D : Dt) (P : Ft) (a0 : Nat) (i1 : Int32) (z : Dt) (h : f_M_goOn N nx D P a0 i1 = some z) : Ct l cx yX9_goOn cX9_goOn 3 none 4 [.ref (cx.2.2 + a0), .int i1] D P nx none z P := by
  refine x_met0 (by decide) (Nat.le_of_ble_eq_true rfl) ?_
  intro p e s m args below meth c X
  have X : XC p s m args meth c cx cX9_goOn 3 none "HeartPinsModel" "goOn" := X
  refine XW.sub (lv' := [(0, .ref (cx.2.2 + a0)), (1, .int i1)]) [0, 1] rfl ?_
  unfold f_M_goOn at h
  obtain ⟨hk0, h⟩ := grd h
  have hL6 : ∀ (n : Nat) (D : Dt) (i2 : Int32), wk2 n (f_M_goOn_6 N nx P a0 i1) D i2 = some z → XW p l e (rmk 4) s m args below meth c (MQ below (Qx cx none z P nx) args s 0 0 (AA cx)) cx 3 D P nx 0 0 6 [(0, .ref (cx.2.2 + a0)), (1, .int i1), (2, .int i2)] [] := by
    intro n
    induction n with
    | zero => intro D i2 h; exact (nonz h).elim
    | succ n ih6 =>
      intro D i2 h
      have h : f_M_goOn_6 N nx P a0 i1 (wk2 n (f_M_goOn_6 N nx P a0 i1)) D i2 = some z := h
      generalize wk2 n (f_M_goOn_6 N nx P a0 i1) = rec6 at ih6 h
      unfold f_M_goOn_6 at h
      refine x_iload_n (pc := 6) X dX9_goOn_6 (i := 2) rfl 2 rfl ?_
      refine x_iload_n (pc := 7) X dX9_goOn_7 (i := 1) rfl 1 rfl ?_
      refine x_icmp_ge (tgt := 25) (pc := 8) X dX9_goOn_8 (by decide) (fun c4 => ?_) (fun c4 => ?_)
      · have h := ite_t c4 h
        obtain rfl := Option.some.inj h
        exact x_vret (pc := 25) X dX9_goOn_25
      · have h := ite_f c4 h
        refine x_aload_n (pc := 11) X dX9_goOn_11 (i := 0) rfl 0 rfl ?_
        refine x_aload_n (pc := 12) X dX9_goOn_12 (i := 0) rfl 0 rfl ?_
        obtain ⟨q2, e2, h⟩ := nns h
        refine x_getr (ci := 9) (k := 16) (n := 26) (C := RX9) (T := TX9) (pc := 13) X dX9_goOn_13 hk0 rfl (by decide) w_905 rfl e2 ?_
        obtain ⟨z3, e3, h⟩ := bnds h
        refine x_callV (pc := 16) (As := [.ref (cx.2.2 + q2)]) (st := []) (st' := []) X (c_M_passOn l cx nx N D P _ _ z3 e3) dX9_goOn_16 w_1093 m_M_passOn rfl hk0 (ci := 9) rfl rfl ⟨by decide, by decide⟩ ⟨Nat.zero_le _, Nat.zero_le _⟩ rfl (Nat.le_of_ble_eq_true rfl) rfl ?_
        refine x_iinc (v := i2 + 1) (lv' := [(2, .int (i2 + 1)), (0, .ref (cx.2.2 + a0)), (1, .int i1)]) (pc := 19) X dX9_goOn_19 2 rfl rfl (by decide) rfl ?_
        refine x_goto (tgt := 6) (pc := 22) X dX9_goOn_22 (by decide) ?_
        exact XW.sub [1, 2, 0] rfl (ih6 _ _ h)
  refine x_aload_n (pc := 0) X dX9_goOn_0 (i := 0) rfl 0 rfl ?_
  obtain ⟨z1, e1, h⟩ := bnds h
  refine x_callV (pc := 1) (As := []) (st := []) (st' := []) X (c_M_take l cx nx N D P _ z1 e1) dX9_goOn_1 w_1112 m_M_take rfl hk0 (ci := 9) rfl rfl ⟨by decide, by decide⟩ ⟨Nat.zero_le _, Nat.zero_le _⟩ rfl (Nat.le_of_ble_eq_true rfl) rfl ?_
  refine x_iconst (v := 0) (pc := 4) X dX9_goOn_4 (by decide) ?_
  refine x_istore_n (lv' := [(2, .int 0), (0, .ref (cx.2.2 + a0)), (1, .int i1)]) (pc := 5) X dX9_goOn_5 (i := 2) rfl (by decide) rfl ?_
  exact XW.sub [1, 2, 0] rfl (hL6 _ _ _ h)
theorem dX9_behind_0 : decode cX9_behind 0 = .ok (.iload_n 1, 1) := by decide +kernel
theorem dX9_behind_1 : decode cX9_behind 1 = .ok (.iconst 0, 1) := by decide +kernel
theorem dX9_behind_2 : decode cX9_behind 2 = .ok (.bipush 60, 2) := by decide +kernel
theorem dX9_behind_4 : decode cX9_behind 4 = .ok (.invokestatic 74, 3) := by decide +kernel
theorem dX9_behind_7 : decode cX9_behind 7 = .ok (.ifCond .eq 11, 3) := by decide +kernel
theorem dX9_behind_10 : decode cX9_behind 10 = .ok (.aload_n 0, 1) := by decide +kernel
theorem dX9_behind_11 : decode cX9_behind 11 = .ok (.iload_n 2, 1) := by decide +kernel
theorem dX9_behind_12 : decode cX9_behind 12 = .ok (.invokevirtual 174, 3) := by decide +kernel
theorem dX9_behind_15 : decode cX9_behind 15 = .ok (.ifCond .ne 5, 3) := by decide +kernel
theorem dX9_behind_18 : decode cX9_behind 18 = .ok (.iconst (-1), 1) := by decide +kernel
theorem dX9_behind_19 : decode cX9_behind 19 = .ok (.ireturn, 1) := by decide +kernel
theorem dX9_behind_20 : decode cX9_behind 20 = .ok (.aload_n 0, 1) := by decide +kernel
theorem dX9_behind_21 : decode cX9_behind 21 = .ok (.iload_n 1, 1) := by decide +kernel
theorem dX9_behind_22 : decode cX9_behind 22 = .ok (.invokevirtual 194, 3) := by decide +kernel
theorem dX9_behind_25 : decode cX9_behind 25 = .ok (.aload_n 0, 1) := by decide +kernel
theorem dX9_behind_26 : decode cX9_behind 26 = .ok (.aload_n 0, 1) := by decide +kernel
theorem dX9_behind_27 : decode cX9_behind 27 = .ok (.getfield 44, 3) := by decide +kernel
theorem dX9_behind_30 : decode cX9_behind 30 = .ok (.iload_n 2, 1) := by decide +kernel
theorem dX9_behind_31 : decode cX9_behind 31 = .ok (.invokevirtual 160, 3) := by decide +kernel
theorem dX9_behind_34 : decode cX9_behind 34 = .ok (.ireturn, 1) := by decide +kernel
def f_M_behind (N nx : Nat) (D : Dt) (P : Ft) (a0 : Nat) (i1 : Int32) (i2 : Int32) : Option (Int32 × Dt) :=
  if kd nx a0 = 9 then
  (f_M_in N nx D P i1 0 60).bind fun z1 =>
  if z1 = 0 then
    some ((-1), D)
  else
    (f_M_isPerson N nx D P a0 i2).bind fun z2 =>
    if z2 = 0 then
      some ((-1), D)
    else
      (f_M_goOn N nx D P a0 i1).bind fun z3 =>
      nn (P a0 16) fun q4 =>
      (f_M_load N nx z3 P a0 q4 i2).bind fun z5 =>
      some (z5, z3)
  else none
theorem m_M_behind : MV yX9_behind cX9_behind 3 (some .int) 2 := ⟨mT 1107 (by decide +kernel) rfl, mT 1105 (by decide +kernel) rfl, mT 1106 (by decide +kernel) rfl, mT 68 (by decide +kernel) rfl, by decide +kernel, by decide +kernel, by decide +kernel⟩
set_option maxHeartbeats 4000000 in
set_option maxRecDepth 100000 in
theorem c_M_behind (l : Launch) (cx : Cx) (nx N : Nat) (D : Dt) (P : Ft) (a0 : Nat) (i1 : Int32) (i2 : Int32) (z : Int32 × Dt) (h : f_M_behind N nx D P a0 i1 i2 = some z) : Ct l cx yX9_behind cX9_behind 3 (some .int) 5 [.ref (cx.2.2 + a0), .int i1, .int i2] D P nx (some (.int z.1)) z.2 P := by
  refine x_met0 (by decide) (Nat.le_of_ble_eq_true rfl) ?_
  intro p e s m args below meth c X
  have X : XC p s m args meth c cx cX9_behind 3 (some .int) "HeartPinsModel" "behind" := X
  refine XW.sub (lv' := [(0, .ref (cx.2.2 + a0)), (1, .int i1), (2, .int i2)]) [0, 1, 2] rfl ?_
  unfold f_M_behind at h
  obtain ⟨hk0, h⟩ := grd h
  refine x_iload_n (pc := 0) X dX9_behind_0 (i := 1) rfl 1 rfl ?_
  refine x_iconst (v := 0) (pc := 1) X dX9_behind_1 (by decide) ?_
  refine x_bipush (v := 60) (pc := 2) X dX9_behind_2 (by decide) ?_
  obtain ⟨z1, e1, h⟩ := bnds h
  refine x_callS (pc := 4) (As := [.int i1, .int 0, .int 60]) (st := []) (st' := [.int z1]) X (c_M_in l cx nx N D P _ _ _ z1 e1) dX9_behind_4 w_972 m_M_in rfl ⟨by decide, by decide⟩ ⟨Nat.zero_le _, Nat.zero_le _⟩ rfl (Nat.le_of_ble_eq_true rfl) rfl ?_
  refine x_if_eq (tgt := 18) (pc := 7) X dX9_behind_7 (by decide) (fun c7 => ?_) (fun c7 => ?_)
  · have h := ite_t c7 h
    refine x_iconst (v := (-1)) (pc := 18) X dX9_behind_18 (by decide) ?_
    obtain rfl := Option.some.inj h
    exact x_iret (pc := 19) X dX9_behind_19
  · have h := ite_f c7 h
    refine x_aload_n (pc := 10) X dX9_behind_10 (i := 0) rfl 0 rfl ?_
    refine x_iload_n (pc := 11) X dX9_behind_11 (i := 2) rfl 2 rfl ?_
    obtain ⟨z2, e2, h⟩ := bnds h
    refine x_callV (pc := 12) (As := [.int i2]) (st := []) (st' := [.int z2]) X (c_M_isPerson l cx nx N D P _ _ z2 e2) dX9_behind_12 w_1027 m_M_isPerson rfl hk0 (ci := 9) rfl rfl ⟨by decide, by decide⟩ ⟨Nat.zero_le _, Nat.zero_le _⟩ rfl (Nat.le_of_ble_eq_true rfl) rfl ?_
    refine x_if_ne (tgt := 20) (pc := 15) X dX9_behind_15 (by decide) (fun c6 => ?_) (fun c6 => ?_)
    · have h := ite_f c6 h
      refine x_aload_n (pc := 20) X dX9_behind_20 (i := 0) rfl 0 rfl ?_
      refine x_iload_n (pc := 21) X dX9_behind_21 (i := 1) rfl 1 rfl ?_
      obtain ⟨z3, e3, h⟩ := bnds h
      refine x_callV (pc := 22) (As := [.int i1]) (st := []) (st' := []) X (c_M_goOn l cx nx N D P _ _ z3 e3) dX9_behind_22 w_1108 m_M_goOn rfl hk0 (ci := 9) rfl rfl ⟨by decide, by decide⟩ ⟨Nat.zero_le _, Nat.zero_le _⟩ rfl (Nat.le_of_ble_eq_true rfl) rfl ?_
      refine x_aload_n (pc := 25) X dX9_behind_25 (i := 0) rfl 0 rfl ?_
      refine x_aload_n (pc := 26) X dX9_behind_26 (i := 0) rfl 0 rfl ?_
      obtain ⟨q4, e4, h⟩ := nns h
      refine x_getr (ci := 9) (k := 16) (n := 26) (C := RX9) (T := TX9) (pc := 27) X dX9_behind_27 hk0 rfl (by decide) w_905 rfl e4 ?_
      refine x_iload_n (pc := 30) X dX9_behind_30 (i := 2) rfl 2 rfl ?_
      obtain ⟨z5, e5, h⟩ := bnds h
      refine x_callV (pc := 31) (As := [.ref (cx.2.2 + q4), .int i2]) (st := []) (st' := [.int z5]) X (c_M_load l cx nx N z3 P _ _ _ z5 e5) dX9_behind_31 w_1031 m_M_load rfl hk0 (ci := 9) rfl rfl ⟨by decide, by decide⟩ ⟨Nat.zero_le _, Nat.zero_le _⟩ rfl (Nat.le_of_ble_eq_true rfl) rfl ?_
      obtain rfl := Option.some.inj h
      exact x_iret (pc := 34) X dX9_behind_34
    · have h := ite_t c6 h
      refine x_iconst (v := (-1)) (pc := 18) X dX9_behind_18 (by decide) ?_
      obtain rfl := Option.some.inj h
      exact x_iret (pc := 19) X dX9_behind_19
theorem dX9_walked_0 : decode cX9_walked 0 = .ok (.iload_n 1, 1) := by decide +kernel
theorem dX9_walked_1 : decode cX9_walked 1 = .ok (.iconst 0, 1) := by decide +kernel
theorem dX9_walked_2 : decode cX9_walked 2 = .ok (.bipush 60, 2) := by decide +kernel
theorem dX9_walked_4 : decode cX9_walked 4 = .ok (.invokestatic 74, 3) := by decide +kernel
theorem dX9_walked_7 : decode cX9_walked 7 = .ok (.ifCond .ne 5, 3) := by decide +kernel
theorem dX9_walked_10 : decode cX9_walked 10 = .ok (.iconst (-1), 1) := by decide +kernel
theorem dX9_walked_11 : decode cX9_walked 11 = .ok (.ireturn, 1) := by decide +kernel
theorem dX9_walked_12 : decode cX9_walked 12 = .ok (.aload_n 0, 1) := by decide +kernel
theorem dX9_walked_13 : decode cX9_walked 13 = .ok (.iload_n 1, 1) := by decide +kernel
theorem dX9_walked_14 : decode cX9_walked 14 = .ok (.invokevirtual 194, 3) := by decide +kernel
theorem dX9_walked_17 : decode cX9_walked 17 = .ok (.aload_n 0, 1) := by decide +kernel
theorem dX9_walked_18 : decode cX9_walked 18 = .ok (.getfield 44, 3) := by decide +kernel
theorem dX9_walked_21 : decode cX9_walked 21 = .ok (.iconst 1, 1) := by decide +kernel
theorem dX9_walked_22 : decode cX9_walked 22 = .ok (.iaload, 1) := by decide +kernel
theorem dX9_walked_23 : decode cX9_walked 23 = .ok (.ireturn, 1) := by decide +kernel
def f_M_walked (N nx : Nat) (D : Dt) (P : Ft) (a0 : Nat) (i1 : Int32) : Option (Int32 × Dt) :=
  if kd nx a0 = 9 then
  (f_M_in N nx D P i1 0 60).bind fun z1 =>
  if z1 = 0 then
    some ((-1), D)
  else
    (f_M_goOn N nx D P a0 i1).bind fun z2 =>
    nn (P a0 16) fun q3 =>
    if ab nx q3 3 1 = true then
    some (z2 q3 (1 : Int32).toNatClampNeg, z2)
    else none
  else none
theorem m_M_walked : MV yX9_walked cX9_walked 2 (some .int) 1 := ⟨mT 1119 (by decide +kernel) rfl, mT 1117 (by decide +kernel) rfl, mT 1118 (by decide +kernel) rfl, mT 68 (by decide +kernel) rfl, by decide +kernel, by decide +kernel, by decide +kernel⟩
set_option maxHeartbeats 4000000 in
set_option maxRecDepth 100000 in
theorem c_M_walked (l : Launch) (cx : Cx) (nx N : Nat) (D : Dt) (P : Ft) (a0 : Nat) (i1 : Int32) (z : Int32 × Dt) (h : f_M_walked N nx D P a0 i1 = some z) : Ct l cx yX9_walked cX9_walked 2 (some .int) 5 [.ref (cx.2.2 + a0), .int i1] D P nx (some (.int z.1)) z.2 P := by
  refine x_met0 (by decide) (Nat.le_of_ble_eq_true rfl) ?_
  intro p e s m args below meth c X
  have X : XC p s m args meth c cx cX9_walked 2 (some .int) "HeartPinsModel" "walked" := X
  refine XW.sub (lv' := [(0, .ref (cx.2.2 + a0)), (1, .int i1)]) [0, 1] rfl ?_
  unfold f_M_walked at h
  obtain ⟨hk0, h⟩ := grd h
  refine x_iload_n (pc := 0) X dX9_walked_0 (i := 1) rfl 1 rfl ?_
  refine x_iconst (v := 0) (pc := 1) X dX9_walked_1 (by decide) ?_
  refine x_bipush (v := 60) (pc := 2) X dX9_walked_2 (by decide) ?_
  obtain ⟨z1, e1, h⟩ := bnds h
  refine x_callS (pc := 4) (As := [.int i1, .int 0, .int 60]) (st := []) (st' := [.int z1]) X (c_M_in l cx nx N D P _ _ _ z1 e1) dX9_walked_4 w_972 m_M_in rfl ⟨by decide, by decide⟩ ⟨Nat.zero_le _, Nat.zero_le _⟩ rfl (Nat.le_of_ble_eq_true rfl) rfl ?_
  refine x_if_ne (tgt := 12) (pc := 7) X dX9_walked_7 (by decide) (fun c5 => ?_) (fun c5 => ?_)
  · have h := ite_f c5 h
    refine x_aload_n (pc := 12) X dX9_walked_12 (i := 0) rfl 0 rfl ?_
    refine x_iload_n (pc := 13) X dX9_walked_13 (i := 1) rfl 1 rfl ?_
    obtain ⟨z2, e2, h⟩ := bnds h
    refine x_callV (pc := 14) (As := [.int i1]) (st := []) (st' := []) X (c_M_goOn l cx nx N D P _ _ z2 e2) dX9_walked_14 w_1108 m_M_goOn rfl hk0 (ci := 9) rfl rfl ⟨by decide, by decide⟩ ⟨Nat.zero_le _, Nat.zero_le _⟩ rfl (Nat.le_of_ble_eq_true rfl) rfl ?_
    refine x_aload_n (pc := 17) X dX9_walked_17 (i := 0) rfl 0 rfl ?_
    obtain ⟨q3, e3, h⟩ := nns h
    refine x_getr (ci := 9) (k := 16) (n := 26) (C := RX9) (T := TX9) (pc := 18) X dX9_walked_18 hk0 rfl (by decide) w_905 rfl e3 ?_
    refine x_iconst (v := 1) (pc := 21) X dX9_walked_21 (by decide) ?_
    obtain ⟨g4, h⟩ := grd h
    refine x_iald (pc := 22) X dX9_walked_22 g4 ?_
    obtain rfl := Option.some.inj h
    exact x_iret (pc := 23) X dX9_walked_23
  · have h := ite_t c5 h
    refine x_iconst (v := (-1)) (pc := 10) X dX9_walked_10 (by decide) ?_
    obtain rfl := Option.some.inj h
    exact x_iret (pc := 11) X dX9_walked_11
theorem dX9_breaks_0 : decode cX9_breaks 0 = .ok (.aload_n 0, 1) := by decide +kernel
theorem dX9_breaks_1 : decode cX9_breaks 1 = .ok (.iload_n 1, 1) := by decide +kernel
theorem dX9_breaks_2 : decode cX9_breaks 2 = .ok (.invokevirtual 174, 3) := by decide +kernel
theorem dX9_breaks_5 : decode cX9_breaks 5 = .ok (.ifCond .ne 5, 3) := by decide +kernel
theorem dX9_breaks_8 : decode cX9_breaks 8 = .ok (.iconst (-1), 1) := by decide +kernel
theorem dX9_breaks_9 : decode cX9_breaks 9 = .ok (.ireturn, 1) := by decide +kernel
theorem dX9_breaks_10 : decode cX9_breaks 10 = .ok (.aload_n 0, 1) := by decide +kernel
theorem dX9_breaks_11 : decode cX9_breaks 11 = .ok (.invokevirtual 191, 3) := by decide +kernel
theorem dX9_breaks_14 : decode cX9_breaks 14 = .ok (.iconst 0, 1) := by decide +kernel
theorem dX9_breaks_15 : decode cX9_breaks 15 = .ok (.istore_n 2, 1) := by decide +kernel
theorem dX9_breaks_16 : decode cX9_breaks 16 = .ok (.iload_n 2, 1) := by decide +kernel
theorem dX9_breaks_17 : decode cX9_breaks 17 = .ok (.bipush 60, 2) := by decide +kernel
theorem dX9_breaks_19 : decode cX9_breaks 19 = .ok (.if_icmp .gt 31, 3) := by decide +kernel
theorem dX9_breaks_22 : decode cX9_breaks 22 = .ok (.aload_n 0, 1) := by decide +kernel
theorem dX9_breaks_23 : decode cX9_breaks 23 = .ok (.aload_n 0, 1) := by decide +kernel
theorem dX9_breaks_24 : decode cX9_breaks 24 = .ok (.getfield 44, 3) := by decide +kernel
theorem dX9_breaks_27 : decode cX9_breaks 27 = .ok (.iload_n 1, 1) := by decide +kernel
theorem dX9_breaks_28 : decode cX9_breaks 28 = .ok (.invokevirtual 163, 3) := by decide +kernel
theorem dX9_breaks_31 : decode cX9_breaks 31 = .ok (.ifCond .eq 5, 3) := by decide +kernel
theorem dX9_breaks_34 : decode cX9_breaks 34 = .ok (.iload_n 2, 1) := by decide +kernel
theorem dX9_breaks_35 : decode cX9_breaks 35 = .ok (.ireturn, 1) := by decide +kernel
theorem dX9_breaks_36 : decode cX9_breaks 36 = .ok (.aload_n 0, 1) := by decide +kernel
theorem dX9_breaks_37 : decode cX9_breaks 37 = .ok (.aload_n 0, 1) := by decide +kernel
theorem dX9_breaks_38 : decode cX9_breaks 38 = .ok (.getfield 44, 3) := by decide +kernel
theorem dX9_breaks_41 : decode cX9_breaks 41 = .ok (.invokevirtual 187, 3) := by decide +kernel
theorem dX9_breaks_44 : decode cX9_breaks 44 = .ok (.iinc 2 1, 3) := by decide +kernel
theorem dX9_breaks_47 : decode cX9_breaks 47 = .ok (.goto (-31), 3) := by decide +kernel
theorem dX9_breaks_50 : decode cX9_breaks 50 = .ok (.bipush (-4), 2) := by decide +kernel
theorem dX9_breaks_52 : decode cX9_breaks 52 = .ok (.ireturn, 1) := by decide +kernel
def f_M_breaks_16 (N nx : Nat) (P : Ft) (a0 : Nat) (i1 : Int32) (rec16 : Dt → Int32 → Option (Int32 × Dt)) (D : Dt) (i2 : Int32) : Option (Int32 × Dt) :=
  if 60 < i2 then
    some ((-4), D)
  else
    nn (P a0 16) fun q3 =>
    (f_M_doesBreak N nx D P a0 q3 i1).bind fun z4 =>
    if z4 = 0 then
      (f_M_passOn N nx D P a0 q3).bind fun z5 =>
      rec16 z5 (i2 + 1)
    else
      some (i2, D)
def f_M_breaks (N nx : Nat) (D : Dt) (P : Ft) (a0 : Nat) (i1 : Int32) : Option (Int32 × Dt) :=
  if kd nx a0 = 9 then
  (f_M_isPerson N nx D P a0 i1).bind fun z1 =>
  if z1 = 0 then
    some ((-1), D)
  else
    (f_M_take N nx D P a0).bind fun z2 =>
    wk2 N (f_M_breaks_16 N nx P a0 i1) z2 0
  else none
theorem m_M_breaks : MV yX9_breaks cX9_breaks 3 (some .int) 1 := ⟨mT 1123 (by decide +kernel) rfl, mT 1121 (by decide +kernel) rfl, mT 1122 (by decide +kernel) rfl, mT 68 (by decide +kernel) rfl, by decide +kernel, by decide +kernel, by decide +kernel⟩
set_option maxHeartbeats 4000000 in
set_option maxRecDepth 100000 in
theorem c_M_breaks (l : Launch) (cx : Cx) (nx N : Nat) (D : Dt) (P : Ft) (a0 : Nat) (i1 : Int32) (z : Int32 × Dt) (h : f_M_breaks N nx D P a0 i1 = some z) : Ct l cx yX9_breaks cX9_breaks 3 (some .int) 4 [.ref (cx.2.2 + a0), .int i1] D P nx (some (.int z.1)) z.2 P := by
  refine x_met0 (by decide) (Nat.le_of_ble_eq_true rfl) ?_
  intro p e s m args below meth c X
  have X : XC p s m args meth c cx cX9_breaks 3 (some .int) "HeartPinsModel" "breaks" := X
  refine XW.sub (lv' := [(0, .ref (cx.2.2 + a0)), (1, .int i1)]) [0, 1] rfl ?_
  unfold f_M_breaks at h
  obtain ⟨hk0, h⟩ := grd h
  have hL16 : ∀ (n : Nat) (D : Dt) (i2 : Int32), wk2 n (f_M_breaks_16 N nx P a0 i1) D i2 = some z → XW p l e (rmk 4) s m args below meth c (MQ below (Qx cx (some (.int z.1)) z.2 P nx) args s 0 0 (AA cx)) cx 3 D P nx 0 0 16 [(0, .ref (cx.2.2 + a0)), (1, .int i1), (2, .int i2)] [] := by
    intro n
    induction n with
    | zero => intro D i2 h; exact (nonz h).elim
    | succ n ih16 =>
      intro D i2 h
      have h : f_M_breaks_16 N nx P a0 i1 (wk2 n (f_M_breaks_16 N nx P a0 i1)) D i2 = some z := h
      generalize wk2 n (f_M_breaks_16 N nx P a0 i1) = rec16 at ih16 h
      unfold f_M_breaks_16 at h
      refine x_iload_n (pc := 16) X dX9_breaks_16 (i := 2) rfl 2 rfl ?_
      refine x_bipush (v := 60) (pc := 17) X dX9_breaks_17 (by decide) ?_
      refine x_icmp_gt (tgt := 50) (pc := 19) X dX9_breaks_19 (by decide) (fun c7 => ?_) (fun c7 => ?_)
      · have h := ite_t c7 h
        refine x_bipush (v := (-4)) (pc := 50) X dX9_breaks_50 (by decide) ?_
        obtain rfl := Option.some.inj h
        exact x_iret (pc := 52) X dX9_breaks_52
      · have h := ite_f c7 h
        refine x_aload_n (pc := 22) X dX9_breaks_22 (i := 0) rfl 0 rfl ?_
        refine x_aload_n (pc := 23) X dX9_breaks_23 (i := 0) rfl 0 rfl ?_
        obtain ⟨q3, e3, h⟩ := nns h
        refine x_getr (ci := 9) (k := 16) (n := 26) (C := RX9) (T := TX9) (pc := 24) X dX9_breaks_24 hk0 rfl (by decide) w_905 rfl e3 ?_
        refine x_iload_n (pc := 27) X dX9_breaks_27 (i := 1) rfl 1 rfl ?_
        obtain ⟨z4, e4, h⟩ := bnds h
        refine x_callV (pc := 28) (As := [.ref (cx.2.2 + q3), .int i1]) (st := []) (st' := [.int z4]) X (c_M_doesBreak l cx nx N D P _ _ _ z4 e4) dX9_breaks_28 w_1046 m_M_doesBreak rfl hk0 (ci := 9) rfl rfl ⟨by decide, by decide⟩ ⟨Nat.zero_le _, Nat.zero_le _⟩ rfl (Nat.le_of_ble_eq_true rfl) rfl ?_
        refine x_if_eq (tgt := 36) (pc := 31) X dX9_breaks_31 (by decide) (fun c6 => ?_) (fun c6 => ?_)
        · have h := ite_t c6 h
          refine x_aload_n (pc := 36) X dX9_breaks_36 (i := 0) rfl 0 rfl ?_
          refine x_aload_n (pc := 37) X dX9_breaks_37 (i := 0) rfl 0 rfl ?_
          refine x_getr (ci := 9) (k := 16) (n := 26) (C := RX9) (T := TX9) (pc := 38) X dX9_breaks_38 hk0 rfl (by decide) w_905 rfl e3 ?_
          obtain ⟨z5, e5, h⟩ := bnds h
          refine x_callV (pc := 41) (As := [.ref (cx.2.2 + q3)]) (st := []) (st' := []) X (c_M_passOn l cx nx N D P _ _ z5 e5) dX9_breaks_41 w_1093 m_M_passOn rfl hk0 (ci := 9) rfl rfl ⟨by decide, by decide⟩ ⟨Nat.zero_le _, Nat.zero_le _⟩ rfl (Nat.le_of_ble_eq_true rfl) rfl ?_
          refine x_iinc (v := i2 + 1) (lv' := [(2, .int (i2 + 1)), (0, .ref (cx.2.2 + a0)), (1, .int i1)]) (pc := 44) X dX9_breaks_44 2 rfl rfl (by decide) rfl ?_
          refine x_goto (tgt := 16) (pc := 47) X dX9_breaks_47 (by decide) ?_
          exact XW.sub [1, 2, 0] rfl (ih16 _ _ h)
        · have h := ite_f c6 h
          refine x_iload_n (pc := 34) X dX9_breaks_34 (i := 2) rfl 2 rfl ?_
          obtain rfl := Option.some.inj h
          exact x_iret (pc := 35) X dX9_breaks_35
  refine x_aload_n (pc := 0) X dX9_breaks_0 (i := 0) rfl 0 rfl ?_
  refine x_iload_n (pc := 1) X dX9_breaks_1 (i := 1) rfl 1 rfl ?_
  obtain ⟨z1, e1, h⟩ := bnds h
  refine x_callV (pc := 2) (As := [.int i1]) (st := []) (st' := [.int z1]) X (c_M_isPerson l cx nx N D P _ _ z1 e1) dX9_breaks_2 w_1027 m_M_isPerson rfl hk0 (ci := 9) rfl rfl ⟨by decide, by decide⟩ ⟨Nat.zero_le _, Nat.zero_le _⟩ rfl (Nat.le_of_ble_eq_true rfl) rfl ?_
  refine x_if_ne (tgt := 10) (pc := 5) X dX9_breaks_5 (by decide) (fun c8 => ?_) (fun c8 => ?_)
  · have h := ite_f c8 h
    refine x_aload_n (pc := 10) X dX9_breaks_10 (i := 0) rfl 0 rfl ?_
    obtain ⟨z2, e2, h⟩ := bnds h
    refine x_callV (pc := 11) (As := []) (st := []) (st' := []) X (c_M_take l cx nx N D P _ z2 e2) dX9_breaks_11 w_1112 m_M_take rfl hk0 (ci := 9) rfl rfl ⟨by decide, by decide⟩ ⟨Nat.zero_le _, Nat.zero_le _⟩ rfl (Nat.le_of_ble_eq_true rfl) rfl ?_
    refine x_iconst (v := 0) (pc := 14) X dX9_breaks_14 (by decide) ?_
    refine x_istore_n (lv' := [(2, .int 0), (0, .ref (cx.2.2 + a0)), (1, .int i1)]) (pc := 15) X dX9_breaks_15 (i := 2) rfl (by decide) rfl ?_
    exact XW.sub [1, 2, 0] rfl (hL16 _ _ _ h)
  · have h := ite_t c8 h
    refine x_iconst (v := (-1)) (pc := 8) X dX9_breaks_8 (by decide) ?_
    obtain rfl := Option.some.inj h
    exact x_iret (pc := 9) X dX9_breaks_9
theorem dX9_door_0 : decode cX9_door 0 = .ok (.aload_n 0, 1) := by decide +kernel
theorem dX9_door_1 : decode cX9_door 1 = .ok (.invokevirtual 191, 3) := by decide +kernel
theorem dX9_door_4 : decode cX9_door 4 = .ok (.iconst 0, 1) := by decide +kernel
theorem dX9_door_5 : decode cX9_door 5 = .ok (.istore_n 1, 1) := by decide +kernel
theorem dX9_door_6 : decode cX9_door 6 = .ok (.iload_n 1, 1) := by decide +kernel
theorem dX9_door_7 : decode cX9_door 7 = .ok (.bipush 60, 2) := by decide +kernel
theorem dX9_door_9 : decode cX9_door 9 = .ok (.if_icmp .gt 30, 3) := by decide +kernel
theorem dX9_door_12 : decode cX9_door 12 = .ok (.aload_n 0, 1) := by decide +kernel
theorem dX9_door_13 : decode cX9_door 13 = .ok (.aload_n 0, 1) := by decide +kernel
theorem dX9_door_14 : decode cX9_door 14 = .ok (.getfield 44, 3) := by decide +kernel
theorem dX9_door_17 : decode cX9_door 17 = .ok (.invokevirtual 181, 3) := by decide +kernel
theorem dX9_door_20 : decode cX9_door 20 = .ok (.ifCond .eq 5, 3) := by decide +kernel
theorem dX9_door_23 : decode cX9_door 23 = .ok (.iload_n 1, 1) := by decide +kernel
theorem dX9_door_24 : decode cX9_door 24 = .ok (.ireturn, 1) := by decide +kernel
theorem dX9_door_25 : decode cX9_door 25 = .ok (.aload_n 0, 1) := by decide +kernel
theorem dX9_door_26 : decode cX9_door 26 = .ok (.aload_n 0, 1) := by decide +kernel
theorem dX9_door_27 : decode cX9_door 27 = .ok (.getfield 44, 3) := by decide +kernel
theorem dX9_door_30 : decode cX9_door 30 = .ok (.invokevirtual 187, 3) := by decide +kernel
theorem dX9_door_33 : decode cX9_door 33 = .ok (.iinc 1 1, 3) := by decide +kernel
theorem dX9_door_36 : decode cX9_door 36 = .ok (.goto (-30), 3) := by decide +kernel
theorem dX9_door_39 : decode cX9_door 39 = .ok (.bipush (-4), 2) := by decide +kernel
theorem dX9_door_41 : decode cX9_door 41 = .ok (.ireturn, 1) := by decide +kernel
def f_M_door_6 (N nx : Nat) (P : Ft) (a0 : Nat) (rec6 : Dt → Int32 → Option (Int32 × Dt)) (D : Dt) (i1 : Int32) : Option (Int32 × Dt) :=
  if 60 < i1 then
    some ((-4), D)
  else
    nn (P a0 16) fun q2 =>
    (f_M_isAtDoor N nx D P a0 q2).bind fun z3 =>
    if z3 = 0 then
      (f_M_passOn N nx D P a0 q2).bind fun z4 =>
      rec6 z4 (i1 + 1)
    else
      some (i1, D)
def f_M_door (N nx : Nat) (D : Dt) (P : Ft) (a0 : Nat) : Option (Int32 × Dt) :=
  if kd nx a0 = 9 then
  (f_M_take N nx D P a0).bind fun z1 =>
  wk2 N (f_M_door_6 N nx P a0) z1 0
  else none
theorem m_M_door : MV yX9_door cX9_door 2 (some .int) 0 := ⟨mT 1127 (by decide +kernel) rfl, mT 1125 (by decide +kernel) rfl, mT 1126 (by decide +kernel) rfl, mT 68 (by decide +kernel) rfl, by decide +kernel, by decide +kernel, by decide +kernel⟩
set_option maxHeartbeats 4000000 in
set_option maxRecDepth 100000 in
theorem c_M_door (l : Launch) (cx : Cx) (nx N : Nat) (D : Dt) (P : Ft) (a0 : Nat) (z : Int32 × Dt) (h : f_M_door N nx D P a0 = some z) : Ct l cx yX9_door cX9_door 2 (some .int) 4 [.ref (cx.2.2 + a0)] D P nx (some (.int z.1)) z.2 P := by
  refine x_met0 (by decide) (Nat.le_of_ble_eq_true rfl) ?_
  intro p e s m args below meth c X
  have X : XC p s m args meth c cx cX9_door 2 (some .int) "HeartPinsModel" "door" := X
  refine XW.sub (lv' := [(0, .ref (cx.2.2 + a0))]) [0] rfl ?_
  unfold f_M_door at h
  obtain ⟨hk0, h⟩ := grd h
  have hL6 : ∀ (n : Nat) (D : Dt) (i1 : Int32), wk2 n (f_M_door_6 N nx P a0) D i1 = some z → XW p l e (rmk 4) s m args below meth c (MQ below (Qx cx (some (.int z.1)) z.2 P nx) args s 0 0 (AA cx)) cx 2 D P nx 0 0 6 [(0, .ref (cx.2.2 + a0)), (1, .int i1)] [] := by
    intro n
    induction n with
    | zero => intro D i1 h; exact (nonz h).elim
    | succ n ih6 =>
      intro D i1 h
      have h : f_M_door_6 N nx P a0 (wk2 n (f_M_door_6 N nx P a0)) D i1 = some z := h
      generalize wk2 n (f_M_door_6 N nx P a0) = rec6 at ih6 h
      unfold f_M_door_6 at h
      refine x_iload_n (pc := 6) X dX9_door_6 (i := 1) rfl 1 rfl ?_
      refine x_bipush (v := 60) (pc := 7) X dX9_door_7 (by decide) ?_
      refine x_icmp_gt (tgt := 39) (pc := 9) X dX9_door_9 (by decide) (fun c6 => ?_) (fun c6 => ?_)
      · have h := ite_t c6 h
        refine x_bipush (v := (-4)) (pc := 39) X dX9_door_39 (by decide) ?_
        obtain rfl := Option.some.inj h
        exact x_iret (pc := 41) X dX9_door_41
      · have h := ite_f c6 h
        refine x_aload_n (pc := 12) X dX9_door_12 (i := 0) rfl 0 rfl ?_
        refine x_aload_n (pc := 13) X dX9_door_13 (i := 0) rfl 0 rfl ?_
        obtain ⟨q2, e2, h⟩ := nns h
        refine x_getr (ci := 9) (k := 16) (n := 26) (C := RX9) (T := TX9) (pc := 14) X dX9_door_14 hk0 rfl (by decide) w_905 rfl e2 ?_
        obtain ⟨z3, e3, h⟩ := bnds h
        refine x_callV (pc := 17) (As := [.ref (cx.2.2 + q2)]) (st := []) (st' := [.int z3]) X (c_M_isAtDoor l cx nx N D P _ _ z3 e3) dX9_door_17 w_1069 m_M_isAtDoor rfl hk0 (ci := 9) rfl rfl ⟨by decide, by decide⟩ ⟨Nat.zero_le _, Nat.zero_le _⟩ rfl (Nat.le_of_ble_eq_true rfl) rfl ?_
        refine x_if_eq (tgt := 25) (pc := 20) X dX9_door_20 (by decide) (fun c5 => ?_) (fun c5 => ?_)
        · have h := ite_t c5 h
          refine x_aload_n (pc := 25) X dX9_door_25 (i := 0) rfl 0 rfl ?_
          refine x_aload_n (pc := 26) X dX9_door_26 (i := 0) rfl 0 rfl ?_
          refine x_getr (ci := 9) (k := 16) (n := 26) (C := RX9) (T := TX9) (pc := 27) X dX9_door_27 hk0 rfl (by decide) w_905 rfl e2 ?_
          obtain ⟨z4, e4, h⟩ := bnds h
          refine x_callV (pc := 30) (As := [.ref (cx.2.2 + q2)]) (st := []) (st' := []) X (c_M_passOn l cx nx N D P _ _ z4 e4) dX9_door_30 w_1093 m_M_passOn rfl hk0 (ci := 9) rfl rfl ⟨by decide, by decide⟩ ⟨Nat.zero_le _, Nat.zero_le _⟩ rfl (Nat.le_of_ble_eq_true rfl) rfl ?_
          refine x_iinc (v := i1 + 1) (lv' := [(1, .int (i1 + 1)), (0, .ref (cx.2.2 + a0))]) (pc := 33) X dX9_door_33 1 rfl rfl (by decide) rfl ?_
          refine x_goto (tgt := 6) (pc := 36) X dX9_door_36 (by decide) ?_
          exact XW.sub [1, 0] rfl (ih6 _ _ h)
        · have h := ite_f c5 h
          refine x_iload_n (pc := 23) X dX9_door_23 (i := 1) rfl 1 rfl ?_
          obtain rfl := Option.some.inj h
          exact x_iret (pc := 24) X dX9_door_24
  refine x_aload_n (pc := 0) X dX9_door_0 (i := 0) rfl 0 rfl ?_
  obtain ⟨z1, e1, h⟩ := bnds h
  refine x_callV (pc := 1) (As := []) (st := []) (st' := []) X (c_M_take l cx nx N D P _ z1 e1) dX9_door_1 w_1112 m_M_take rfl hk0 (ci := 9) rfl rfl ⟨by decide, by decide⟩ ⟨Nat.zero_le _, Nat.zero_le _⟩ rfl (Nat.le_of_ble_eq_true rfl) rfl ?_
  refine x_iconst (v := 0) (pc := 4) X dX9_door_4 (by decide) ?_
  refine x_istore_n (lv' := [(1, .int 0), (0, .ref (cx.2.2 + a0))]) (pc := 5) X dX9_door_5 (i := 1) rfl (by decide) rfl ?_
  exact XW.sub [1, 0] rfl (hL6 _ _ _ h)
theorem dX9_isWellBy_0 : decode cX9_isWellBy 0 = .ok (.aload_n 0, 1) := by decide +kernel
theorem dX9_isWellBy_1 : decode cX9_isWellBy 1 = .ok (.invokevirtual 191, 3) := by decide +kernel
theorem dX9_isWellBy_4 : decode cX9_isWellBy 4 = .ok (.iconst 0, 1) := by decide +kernel
theorem dX9_isWellBy_5 : decode cX9_isWellBy 5 = .ok (.istore_n 3, 1) := by decide +kernel
theorem dX9_isWellBy_6 : decode cX9_isWellBy 6 = .ok (.iload_n 3, 1) := by decide +kernel
theorem dX9_isWellBy_7 : decode cX9_isWellBy 7 = .ok (.aload_n 0, 1) := by decide +kernel
theorem dX9_isWellBy_8 : decode cX9_isWellBy 8 = .ok (.getfield 17, 3) := by decide +kernel
theorem dX9_isWellBy_11 : decode cX9_isWellBy 11 = .ok (.iconst 0, 1) := by decide +kernel
theorem dX9_isWellBy_12 : decode cX9_isWellBy 12 = .ok (.iaload, 1) := by decide +kernel
theorem dX9_isWellBy_13 : decode cX9_isWellBy 13 = .ok (.if_icmp .ge 37, 3) := by decide +kernel
theorem dX9_isWellBy_16 : decode cX9_isWellBy 16 = .ok (.aload_n 0, 1) := by decide +kernel
theorem dX9_isWellBy_17 : decode cX9_isWellBy 17 = .ok (.getfield 44, 3) := by decide +kernel
theorem dX9_isWellBy_20 : decode cX9_isWellBy 20 = .ok (.iconst 2, 1) := by decide +kernel
theorem dX9_isWellBy_21 : decode cX9_isWellBy 21 = .ok (.iload_n 3, 1) := by decide +kernel
theorem dX9_isWellBy_22 : decode cX9_isWellBy 22 = .ok (.iadd, 1) := by decide +kernel
theorem dX9_isWellBy_23 : decode cX9_isWellBy 23 = .ok (.iload_n 1, 1) := by decide +kernel
theorem dX9_isWellBy_24 : decode cX9_isWellBy 24 = .ok (.iload_n 3, 1) := by decide +kernel
theorem dX9_isWellBy_25 : decode cX9_isWellBy 25 = .ok (.invokestatic 149, 3) := by decide +kernel
theorem dX9_isWellBy_28 : decode cX9_isWellBy 28 = .ok (.ifCond .eq 7, 3) := by decide +kernel
theorem dX9_isWellBy_31 : decode cX9_isWellBy 31 = .ok (.iconst 5, 1) := by decide +kernel
theorem dX9_isWellBy_32 : decode cX9_isWellBy 32 = .ok (.goto 11, 3) := by decide +kernel
theorem dX9_isWellBy_35 : decode cX9_isWellBy 35 = .ok (.aload_n 0, 1) := by decide +kernel
theorem dX9_isWellBy_36 : decode cX9_isWellBy 36 = .ok (.getfield 44, 3) := by decide +kernel
theorem dX9_isWellBy_39 : decode cX9_isWellBy 39 = .ok (.iconst 2, 1) := by decide +kernel
theorem dX9_isWellBy_40 : decode cX9_isWellBy 40 = .ok (.iload_n 3, 1) := by decide +kernel
theorem dX9_isWellBy_41 : decode cX9_isWellBy 41 = .ok (.iadd, 1) := by decide +kernel
theorem dX9_isWellBy_42 : decode cX9_isWellBy 42 = .ok (.iaload, 1) := by decide +kernel
theorem dX9_isWellBy_43 : decode cX9_isWellBy 43 = .ok (.iastore, 1) := by decide +kernel
theorem dX9_isWellBy_44 : decode cX9_isWellBy 44 = .ok (.iinc 3 1, 3) := by decide +kernel
theorem dX9_isWellBy_47 : decode cX9_isWellBy 47 = .ok (.goto (-41), 3) := by decide +kernel
theorem dX9_isWellBy_50 : decode cX9_isWellBy 50 = .ok (.aload_n 0, 1) := by decide +kernel
theorem dX9_isWellBy_51 : decode cX9_isWellBy 51 = .ok (.aload_n 0, 1) := by decide +kernel
theorem dX9_isWellBy_52 : decode cX9_isWellBy 52 = .ok (.getfield 44, 3) := by decide +kernel
theorem dX9_isWellBy_55 : decode cX9_isWellBy 55 = .ok (.invokevirtual 197, 3) := by decide +kernel
theorem dX9_isWellBy_58 : decode cX9_isWellBy 58 = .ok (.ifCond .ne 18, 3) := by decide +kernel
theorem dX9_isWellBy_61 : decode cX9_isWellBy 61 = .ok (.aload_n 0, 1) := by decide +kernel
theorem dX9_isWellBy_62 : decode cX9_isWellBy 62 = .ok (.aload_n 0, 1) := by decide +kernel
theorem dX9_isWellBy_63 : decode cX9_isWellBy 63 = .ok (.getfield 44, 3) := by decide +kernel
theorem dX9_isWellBy_66 : decode cX9_isWellBy 66 = .ok (.invokevirtual 181, 3) := by decide +kernel
theorem dX9_isWellBy_69 : decode cX9_isWellBy 69 = .ok (.ifCond .ne 7, 3) := by decide +kernel
theorem dX9_isWellBy_72 : decode cX9_isWellBy 72 = .ok (.iconst 1, 1) := by decide +kernel
theorem dX9_isWellBy_73 : decode cX9_isWellBy 73 = .ok (.goto 4, 3) := by decide +kernel
theorem dX9_isWellBy_76 : decode cX9_isWellBy 76 = .ok (.iconst 0, 1) := by decide +kernel
theorem dX9_isWellBy_77 : decode cX9_isWellBy 77 = .ok (.istore_n 3, 1) := by decide +kernel
theorem dX9_isWellBy_78 : decode cX9_isWellBy 78 = .ok (.iconst 0, 1) := by decide +kernel
theorem dX9_isWellBy_79 : decode cX9_isWellBy 79 = .ok (.istore 4, 2) := by decide +kernel
theorem dX9_isWellBy_81 : decode cX9_isWellBy 81 = .ok (.iload 4, 2) := by decide +kernel
theorem dX9_isWellBy_83 : decode cX9_isWellBy 83 = .ok (.iload_n 2, 1) := by decide +kernel
theorem dX9_isWellBy_84 : decode cX9_isWellBy 84 = .ok (.if_icmp .ge 49, 3) := by decide +kernel
theorem dX9_isWellBy_87 : decode cX9_isWellBy 87 = .ok (.iload_n 3, 1) := by decide +kernel
theorem dX9_isWellBy_88 : decode cX9_isWellBy 88 = .ok (.ifCond .eq 45, 3) := by decide +kernel
theorem dX9_isWellBy_91 : decode cX9_isWellBy 91 = .ok (.aload_n 0, 1) := by decide +kernel
theorem dX9_isWellBy_92 : decode cX9_isWellBy 92 = .ok (.aload_n 0, 1) := by decide +kernel
theorem dX9_isWellBy_93 : decode cX9_isWellBy 93 = .ok (.getfield 44, 3) := by decide +kernel
theorem dX9_isWellBy_96 : decode cX9_isWellBy 96 = .ok (.invokevirtual 187, 3) := by decide +kernel
theorem dX9_isWellBy_99 : decode cX9_isWellBy 99 = .ok (.aload_n 0, 1) := by decide +kernel
theorem dX9_isWellBy_100 : decode cX9_isWellBy 100 = .ok (.aload_n 0, 1) := by decide +kernel
theorem dX9_isWellBy_101 : decode cX9_isWellBy 101 = .ok (.getfield 44, 3) := by decide +kernel
theorem dX9_isWellBy_104 : decode cX9_isWellBy 104 = .ok (.invokevirtual 197, 3) := by decide +kernel
theorem dX9_isWellBy_107 : decode cX9_isWellBy 107 = .ok (.ifCond .ne 18, 3) := by decide +kernel
theorem dX9_isWellBy_110 : decode cX9_isWellBy 110 = .ok (.aload_n 0, 1) := by decide +kernel
theorem dX9_isWellBy_111 : decode cX9_isWellBy 111 = .ok (.aload_n 0, 1) := by decide +kernel
theorem dX9_isWellBy_112 : decode cX9_isWellBy 112 = .ok (.getfield 44, 3) := by decide +kernel
theorem dX9_isWellBy_115 : decode cX9_isWellBy 115 = .ok (.invokevirtual 181, 3) := by decide +kernel
theorem dX9_isWellBy_118 : decode cX9_isWellBy 118 = .ok (.ifCond .ne 7, 3) := by decide +kernel
theorem dX9_isWellBy_121 : decode cX9_isWellBy 121 = .ok (.iconst 1, 1) := by decide +kernel
theorem dX9_isWellBy_122 : decode cX9_isWellBy 122 = .ok (.goto 4, 3) := by decide +kernel
theorem dX9_isWellBy_125 : decode cX9_isWellBy 125 = .ok (.iconst 0, 1) := by decide +kernel
theorem dX9_isWellBy_126 : decode cX9_isWellBy 126 = .ok (.istore_n 3, 1) := by decide +kernel
theorem dX9_isWellBy_127 : decode cX9_isWellBy 127 = .ok (.iinc 4 1, 3) := by decide +kernel
theorem dX9_isWellBy_130 : decode cX9_isWellBy 130 = .ok (.goto (-49), 3) := by decide +kernel
theorem dX9_isWellBy_133 : decode cX9_isWellBy 133 = .ok (.iload_n 3, 1) := by decide +kernel
theorem dX9_isWellBy_134 : decode cX9_isWellBy 134 = .ok (.ireturn, 1) := by decide +kernel
def f_M_isWellBy_81 (N nx : Nat) (P : Ft) (a0 : Nat) (i2 : Int32) (rec81 : Dt → Int32 → Int32 → Option (Int32 × Dt)) (D : Dt) (i3 : Int32) (i4 : Int32) : Option (Int32 × Dt) :=
  if i2 ≤ i4 then
    if i3 = 0 ∨ i3 = 1 then
    some (i3, D)
    else none
  else
    if i3 = 0 then
      if i3 = 0 ∨ i3 = 1 then
      some (i3, D)
      else none
    else
      nn (P a0 16) fun q8 =>
      (f_M_passOn N nx D P a0 q8).bind fun z9 =>
      (f_M_broken N nx z9 P a0 q8).bind fun z10 =>
      if z10 = 0 then
        (f_M_isAtDoor N nx z9 P a0 q8).bind fun z11 =>
        if z11 = 0 then
          rec81 z9 1 (i4 + 1)
        else
          rec81 z9 0 (i4 + 1)
      else
        rec81 z9 0 (i4 + 1)
def f_M_isWellBy_6 (N nx : Nat) (P : Ft) (a0 : Nat) (i1 : Int32) (i2 : Int32) (rec6 : Dt → Int32 → Option (Int32 × Dt)) (D : Dt) (i3 : Int32) : Option (Int32 × Dt) :=
  nn (P a0 3) fun q2 =>
  if ab nx q2 3 0 = true then
  if D q2 (0 : Int32).toNatClampNeg ≤ i3 then
    nn (P a0 16) fun q4 =>
    (f_M_broken N nx D P a0 q4).bind fun z5 =>
    if z5 = 0 then
      (f_M_isAtDoor N nx D P a0 q4).bind fun z16 =>
      if z16 = 0 then
        wk3 N (f_M_isWellBy_81 N nx P a0 i2) D 1 0
      else
        wk3 N (f_M_isWellBy_81 N nx P a0 i2) D 0 0
    else
      wk3 N (f_M_isWellBy_81 N nx P a0 i2) D 0 0
  else
    nn (P a0 16) fun q19 =>
    (f_M_has N nx D P i1 i3).bind fun z20 =>
    if z20 = 0 then
      if ab nx q19 3 (2 + i3) = true then
      if ab nx q19 3 (2 + i3) = true then
      pas (upd2 D q19 (2 + i3).toNatClampNeg (D q19 (2 + i3).toNatClampNeg)) fun D22 =>
      rec6 D22 (i3 + 1)
      else none
      else none
    else
      if ab nx q19 3 (2 + i3) = true then
      pas (upd2 D q19 (2 + i3).toNatClampNeg 5) fun D23 =>
      rec6 D23 (i3 + 1)
      else none
  else none
def f_M_isWellBy (N nx : Nat) (D : Dt) (P : Ft) (a0 : Nat) (i1 : Int32) (i2 : Int32) : Option (Int32 × Dt) :=
  if kd nx a0 = 9 then
  (f_M_take N nx D P a0).bind fun z1 =>
  wk2 N (f_M_isWellBy_6 N nx P a0 i1 i2) z1 0
  else none
theorem m_M_isWellBy : MV yX9_isWellBy cX9_isWellBy 5 (some .boolean) 2 := ⟨mT 1142 (by decide +kernel) rfl, mT 1141 (by decide +kernel) rfl, mT 45 (by decide +kernel) rfl, mT 68 (by decide +kernel) rfl, by decide +kernel, by decide +kernel, by decide +kernel⟩
set_option maxHeartbeats 4000000 in
set_option maxRecDepth 100000 in
theorem c_M_isWellBy (l : Launch) (cx : Cx) (nx N : Nat) (D : Dt) (P : Ft) (a0 : Nat) (i1 : Int32) (i2 : Int32) (z : Int32 × Dt) (h : f_M_isWellBy N nx D P a0 i1 i2 = some z) : Ct l cx yX9_isWellBy cX9_isWellBy 5 (some .boolean) 5 [.ref (cx.2.2 + a0), .int i1, .int i2] D P nx (some (.int z.1)) z.2 P := by
  refine x_met0 (by decide) (Nat.le_of_ble_eq_true rfl) ?_
  intro p e s m args below meth c X
  have X : XC p s m args meth c cx cX9_isWellBy 5 (some .boolean) "HeartPinsModel" "isWellBy" := X
  refine XW.sub (lv' := [(0, .ref (cx.2.2 + a0)), (1, .int i1), (2, .int i2)]) [0, 1, 2] rfl ?_
  unfold f_M_isWellBy at h
  obtain ⟨hk0, h⟩ := grd h
  have hL81 : ∀ (n : Nat) (D : Dt) (i3 : Int32) (i4 : Int32), wk3 n (f_M_isWellBy_81 N nx P a0 i2) D i3 i4 = some z → XW p l e (rmk 5) s m args below meth c (MQ below (Qx cx (some (.int z.1)) z.2 P nx) args s 0 0 (AA cx)) cx 5 D P nx 0 0 81 [(0, .ref (cx.2.2 + a0)), (2, .int i2), (3, .int i3), (4, .int i4)] [] := by
    intro n
    induction n with
    | zero => intro D i3 i4 h; exact (nonz h).elim
    | succ n ih81 =>
      intro D i3 i4 h
      have h : f_M_isWellBy_81 N nx P a0 i2 (wk3 n (f_M_isWellBy_81 N nx P a0 i2)) D i3 i4 = some z := h
      generalize wk3 n (f_M_isWellBy_81 N nx P a0 i2) = rec81 at ih81 h
      unfold f_M_isWellBy_81 at h
      refine x_iload (pc := 81) X dX9_isWellBy_81 3 rfl ?_
      refine x_iload_n (pc := 83) X dX9_isWellBy_83 (i := 2) rfl 1 rfl ?_
      refine x_icmp_ge (tgt := 133) (pc := 84) X dX9_isWellBy_84 (by decide) (fun c15 => ?_) (fun c15 => ?_)
      · have h := ite_t c15 h
        refine x_iload_n (pc := 133) X dX9_isWellBy_133 (i := 3) rfl 2 rfl ?_
        obtain ⟨b6, h⟩ := grd h
        obtain rfl := Option.some.inj h
        exact x_zret (pc := 134) X dX9_isWellBy_134 b6
      · have h := ite_f c15 h
        refine x_iload_n (pc := 87) X dX9_isWellBy_87 (i := 3) rfl 2 rfl ?_
        refine x_if_eq (tgt := 133) (pc := 88) X dX9_isWellBy_88 (by decide) (fun c14 => ?_) (fun c14 => ?_)
        · have h := ite_t c14 h
          refine x_iload_n (pc := 133) X dX9_isWellBy_133 (i := 3) rfl 2 rfl ?_
          obtain ⟨b7, h⟩ := grd h
          obtain rfl := Option.some.inj h
          exact x_zret (pc := 134) X dX9_isWellBy_134 b7
        · have h := ite_f c14 h
          refine x_aload_n (pc := 91) X dX9_isWellBy_91 (i := 0) rfl 0 rfl ?_
          refine x_aload_n (pc := 92) X dX9_isWellBy_92 (i := 0) rfl 0 rfl ?_
          obtain ⟨q8, e8, h⟩ := nns h
          refine x_getr (ci := 9) (k := 16) (n := 26) (C := RX9) (T := TX9) (pc := 93) X dX9_isWellBy_93 hk0 rfl (by decide) w_905 rfl e8 ?_
          obtain ⟨z9, e9, h⟩ := bnds h
          refine x_callV (pc := 96) (As := [.ref (cx.2.2 + q8)]) (st := []) (st' := []) X (c_M_passOn l cx nx N D P _ _ z9 e9) dX9_isWellBy_96 w_1093 m_M_passOn rfl hk0 (ci := 9) rfl rfl ⟨by decide, by decide⟩ ⟨Nat.zero_le _, Nat.zero_le _⟩ rfl (Nat.le_of_ble_eq_true rfl) rfl ?_
          refine x_aload_n (pc := 99) X dX9_isWellBy_99 (i := 0) rfl 0 rfl ?_
          refine x_aload_n (pc := 100) X dX9_isWellBy_100 (i := 0) rfl 0 rfl ?_
          refine x_getr (ci := 9) (k := 16) (n := 26) (C := RX9) (T := TX9) (pc := 101) X dX9_isWellBy_101 hk0 rfl (by decide) w_905 rfl e8 ?_
          obtain ⟨z10, e10, h⟩ := bnds h
          refine x_callV (pc := 104) (As := [.ref (cx.2.2 + q8)]) (st := []) (st' := [.int z10]) X (c_M_broken l cx nx N z9 P _ _ z10 e10) dX9_isWellBy_104 w_1143 m_M_broken rfl hk0 (ci := 9) rfl rfl ⟨by decide, by decide⟩ ⟨Nat.zero_le _, Nat.zero_le _⟩ rfl (Nat.le_of_ble_eq_true rfl) rfl ?_
          refine x_if_ne (tgt := 125) (pc := 107) X dX9_isWellBy_107 (by decide) (fun c13 => ?_) (fun c13 => ?_)
          · have h := ite_f c13 h
            refine x_iconst (v := 0) (pc := 125) X dX9_isWellBy_125 (by decide) ?_
            refine x_istore_n (lv' := [(3, .int 0), (0, .ref (cx.2.2 + a0)), (2, .int i2), (4, .int i4)]) (pc := 126) X dX9_isWellBy_126 (i := 3) rfl (by decide) rfl ?_
            refine x_iinc (v := i4 + 1) (lv' := [(4, .int (i4 + 1)), (3, .int 0), (0, .ref (cx.2.2 + a0)), (2, .int i2)]) (pc := 127) X dX9_isWellBy_127 3 rfl rfl (by decide) rfl ?_
            refine x_goto (tgt := 81) (pc := 130) X dX9_isWellBy_130 (by decide) ?_
            exact XW.sub [2, 3, 1, 0] rfl (ih81 _ _ _ h)
          · have h := ite_t c13 h
            refine x_aload_n (pc := 110) X dX9_isWellBy_110 (i := 0) rfl 0 rfl ?_
            refine x_aload_n (pc := 111) X dX9_isWellBy_111 (i := 0) rfl 0 rfl ?_
            refine x_getr (ci := 9) (k := 16) (n := 26) (C := RX9) (T := TX9) (pc := 112) X dX9_isWellBy_112 hk0 rfl (by decide) w_905 rfl e8 ?_
            obtain ⟨z11, e11, h⟩ := bnds h
            refine x_callV (pc := 115) (As := [.ref (cx.2.2 + q8)]) (st := []) (st' := [.int z11]) X (c_M_isAtDoor l cx nx N z9 P _ _ z11 e11) dX9_isWellBy_115 w_1069 m_M_isAtDoor rfl hk0 (ci := 9) rfl rfl ⟨by decide, by decide⟩ ⟨Nat.zero_le _, Nat.zero_le _⟩ rfl (Nat.le_of_ble_eq_true rfl) rfl ?_
            refine x_if_ne (tgt := 125) (pc := 118) X dX9_isWellBy_118 (by decide) (fun c12 => ?_) (fun c12 => ?_)
            · have h := ite_f c12 h
              refine x_iconst (v := 0) (pc := 125) X dX9_isWellBy_125 (by decide) ?_
              refine x_istore_n (lv' := [(3, .int 0), (0, .ref (cx.2.2 + a0)), (2, .int i2), (4, .int i4)]) (pc := 126) X dX9_isWellBy_126 (i := 3) rfl (by decide) rfl ?_
              refine x_iinc (v := i4 + 1) (lv' := [(4, .int (i4 + 1)), (3, .int 0), (0, .ref (cx.2.2 + a0)), (2, .int i2)]) (pc := 127) X dX9_isWellBy_127 3 rfl rfl (by decide) rfl ?_
              refine x_goto (tgt := 81) (pc := 130) X dX9_isWellBy_130 (by decide) ?_
              exact XW.sub [2, 3, 1, 0] rfl (ih81 _ _ _ h)
            · have h := ite_t c12 h
              refine x_iconst (v := 1) (pc := 121) X dX9_isWellBy_121 (by decide) ?_
              refine x_goto (tgt := 126) (pc := 122) X dX9_isWellBy_122 (by decide) ?_
              refine x_istore_n (lv' := [(3, .int 1), (0, .ref (cx.2.2 + a0)), (2, .int i2), (4, .int i4)]) (pc := 126) X dX9_isWellBy_126 (i := 3) rfl (by decide) rfl ?_
              refine x_iinc (v := i4 + 1) (lv' := [(4, .int (i4 + 1)), (3, .int 1), (0, .ref (cx.2.2 + a0)), (2, .int i2)]) (pc := 127) X dX9_isWellBy_127 3 rfl rfl (by decide) rfl ?_
              refine x_goto (tgt := 81) (pc := 130) X dX9_isWellBy_130 (by decide) ?_
              exact XW.sub [2, 3, 1, 0] rfl (ih81 _ _ _ h)
  have hL6 : ∀ (n : Nat) (D : Dt) (i3 : Int32), wk2 n (f_M_isWellBy_6 N nx P a0 i1 i2) D i3 = some z → XW p l e (rmk 5) s m args below meth c (MQ below (Qx cx (some (.int z.1)) z.2 P nx) args s 0 0 (AA cx)) cx 5 D P nx 0 0 6 [(0, .ref (cx.2.2 + a0)), (1, .int i1), (2, .int i2), (3, .int i3)] [] := by
    intro n
    induction n with
    | zero => intro D i3 h; exact (nonz h).elim
    | succ n ih6 =>
      intro D i3 h
      have h : f_M_isWellBy_6 N nx P a0 i1 i2 (wk2 n (f_M_isWellBy_6 N nx P a0 i1 i2)) D i3 = some z := h
      generalize wk2 n (f_M_isWellBy_6 N nx P a0 i1 i2) = rec6 at ih6 h
      unfold f_M_isWellBy_6 at h
      refine x_iload_n (pc := 6) X dX9_isWellBy_6 (i := 3) rfl 3 rfl ?_
      refine x_aload_n (pc := 7) X dX9_isWellBy_7 (i := 0) rfl 0 rfl ?_
      obtain ⟨q2, e2, h⟩ := nns h
      refine x_getr (ci := 9) (k := 3) (n := 26) (C := RX9) (T := TX9) (pc := 8) X dX9_isWellBy_8 hk0 rfl (by decide) w_892 rfl e2 ?_
      refine x_iconst (v := 0) (pc := 11) X dX9_isWellBy_11 (by decide) ?_
      obtain ⟨g3, h⟩ := grd h
      refine x_iald (pc := 12) X dX9_isWellBy_12 g3 ?_
      refine x_icmp_ge (tgt := 50) (pc := 13) X dX9_isWellBy_13 (by decide) (fun c25 => ?_) (fun c25 => ?_)
      · have h := ite_t c25 h
        refine x_aload_n (pc := 50) X dX9_isWellBy_50 (i := 0) rfl 0 rfl ?_
        refine x_aload_n (pc := 51) X dX9_isWellBy_51 (i := 0) rfl 0 rfl ?_
        obtain ⟨q4, e4, h⟩ := nns h
        refine x_getr (ci := 9) (k := 16) (n := 26) (C := RX9) (T := TX9) (pc := 52) X dX9_isWellBy_52 hk0 rfl (by decide) w_905 rfl e4 ?_
        obtain ⟨z5, e5, h⟩ := bnds h
        refine x_callV (pc := 55) (As := [.ref (cx.2.2 + q4)]) (st := []) (st' := [.int z5]) X (c_M_broken l cx nx N D P _ _ z5 e5) dX9_isWellBy_55 w_1143 m_M_broken rfl hk0 (ci := 9) rfl rfl ⟨by decide, by decide⟩ ⟨Nat.zero_le _, Nat.zero_le _⟩ rfl (Nat.le_of_ble_eq_true rfl) rfl ?_
        refine x_if_ne (tgt := 76) (pc := 58) X dX9_isWellBy_58 (by decide) (fun c18 => ?_) (fun c18 => ?_)
        · have h := ite_f c18 h
          refine x_iconst (v := 0) (pc := 76) X dX9_isWellBy_76 (by decide) ?_
          refine x_istore_n (lv' := [(3, .int 0), (0, .ref (cx.2.2 + a0)), (1, .int i1), (2, .int i2)]) (pc := 77) X dX9_isWellBy_77 (i := 3) rfl (by decide) rfl ?_
          refine x_iconst (v := 0) (pc := 78) X dX9_isWellBy_78 (by decide) ?_
          refine x_istore (lv' := [(4, .int 0), (3, .int 0), (0, .ref (cx.2.2 + a0)), (1, .int i1), (2, .int i2)]) (pc := 79) X dX9_isWellBy_79 (by decide) rfl ?_
          exact XW.sub [2, 4, 1, 0] rfl (hL81 _ _ _ _ h)
        · have h := ite_t c18 h
          refine x_aload_n (pc := 61) X dX9_isWellBy_61 (i := 0) rfl 0 rfl ?_
          refine x_aload_n (pc := 62) X dX9_isWellBy_62 (i := 0) rfl 0 rfl ?_
          refine x_getr (ci := 9) (k := 16) (n := 26) (C := RX9) (T := TX9) (pc := 63) X dX9_isWellBy_63 hk0 rfl (by decide) w_905 rfl e4 ?_
          obtain ⟨z16, e16, h⟩ := bnds h
          refine x_callV (pc := 66) (As := [.ref (cx.2.2 + q4)]) (st := []) (st' := [.int z16]) X (c_M_isAtDoor l cx nx N D P _ _ z16 e16) dX9_isWellBy_66 w_1069 m_M_isAtDoor rfl hk0 (ci := 9) rfl rfl ⟨by decide, by decide⟩ ⟨Nat.zero_le _, Nat.zero_le _⟩ rfl (Nat.le_of_ble_eq_true rfl) rfl ?_
          refine x_if_ne (tgt := 76) (pc := 69) X dX9_isWellBy_69 (by decide) (fun c17 => ?_) (fun c17 => ?_)
          · have h := ite_f c17 h
            refine x_iconst (v := 0) (pc := 76) X dX9_isWellBy_76 (by decide) ?_
            refine x_istore_n (lv' := [(3, .int 0), (0, .ref (cx.2.2 + a0)), (1, .int i1), (2, .int i2)]) (pc := 77) X dX9_isWellBy_77 (i := 3) rfl (by decide) rfl ?_
            refine x_iconst (v := 0) (pc := 78) X dX9_isWellBy_78 (by decide) ?_
            refine x_istore (lv' := [(4, .int 0), (3, .int 0), (0, .ref (cx.2.2 + a0)), (1, .int i1), (2, .int i2)]) (pc := 79) X dX9_isWellBy_79 (by decide) rfl ?_
            exact XW.sub [2, 4, 1, 0] rfl (hL81 _ _ _ _ h)
          · have h := ite_t c17 h
            refine x_iconst (v := 1) (pc := 72) X dX9_isWellBy_72 (by decide) ?_
            refine x_goto (tgt := 77) (pc := 73) X dX9_isWellBy_73 (by decide) ?_
            refine x_istore_n (lv' := [(3, .int 1), (0, .ref (cx.2.2 + a0)), (1, .int i1), (2, .int i2)]) (pc := 77) X dX9_isWellBy_77 (i := 3) rfl (by decide) rfl ?_
            refine x_iconst (v := 0) (pc := 78) X dX9_isWellBy_78 (by decide) ?_
            refine x_istore (lv' := [(4, .int 0), (3, .int 1), (0, .ref (cx.2.2 + a0)), (1, .int i1), (2, .int i2)]) (pc := 79) X dX9_isWellBy_79 (by decide) rfl ?_
            exact XW.sub [2, 4, 1, 0] rfl (hL81 _ _ _ _ h)
      · have h := ite_f c25 h
        refine x_aload_n (pc := 16) X dX9_isWellBy_16 (i := 0) rfl 0 rfl ?_
        obtain ⟨q19, e19, h⟩ := nns h
        refine x_getr (ci := 9) (k := 16) (n := 26) (C := RX9) (T := TX9) (pc := 17) X dX9_isWellBy_17 hk0 rfl (by decide) w_905 rfl e19 ?_
        refine x_iconst (v := 2) (pc := 20) X dX9_isWellBy_20 (by decide) ?_
        refine x_iload_n (pc := 21) X dX9_isWellBy_21 (i := 3) rfl 3 rfl ?_
        refine x_iadd (pc := 22) X dX9_isWellBy_22 ?_
        refine x_iload_n (pc := 23) X dX9_isWellBy_23 (i := 1) rfl 1 rfl ?_
        refine x_iload_n (pc := 24) X dX9_isWellBy_24 (i := 3) rfl 3 rfl ?_
        obtain ⟨z20, e20, h⟩ := bnds h
        refine x_callS (pc := 25) (As := [.int i1, .int i3]) (st := [.int (2 + i3), .ref (cx.2.2 + q19)]) (st' := [.int z20, .int (2 + i3), .ref (cx.2.2 + q19)]) X (c_M_has l cx nx N D P _ _ z20 e20) dX9_isWellBy_25 w_1043 m_M_has rfl ⟨by decide, by decide⟩ ⟨Nat.zero_le _, Nat.zero_le _⟩ rfl (Nat.le_of_ble_eq_true rfl) rfl ?_
        refine x_if_eq (tgt := 35) (pc := 28) X dX9_isWellBy_28 (by decide) (fun c24 => ?_) (fun c24 => ?_)
        · have h := ite_t c24 h
          refine x_aload_n (pc := 35) X dX9_isWellBy_35 (i := 0) rfl 0 rfl ?_
          refine x_getr (ci := 9) (k := 16) (n := 26) (C := RX9) (T := TX9) (pc := 36) X dX9_isWellBy_36 hk0 rfl (by decide) w_905 rfl e19 ?_
          refine x_iconst (v := 2) (pc := 39) X dX9_isWellBy_39 (by decide) ?_
          refine x_iload_n (pc := 40) X dX9_isWellBy_40 (i := 3) rfl 3 rfl ?_
          refine x_iadd (pc := 41) X dX9_isWellBy_41 ?_
          obtain ⟨g21, h⟩ := grd h
          refine x_iald (pc := 42) X dX9_isWellBy_42 g21 ?_
          obtain ⟨g22, h⟩ := grd h
          obtain ⟨D22, w22, h⟩ := pass h
          refine x_iast (D' := D22) (pc := 43) X dX9_isWellBy_43 g22 w22 ?_
          refine x_iinc (v := i3 + 1) (lv' := [(3, .int (i3 + 1)), (0, .ref (cx.2.2 + a0)), (1, .int i1), (2, .int i2)]) (pc := 44) X dX9_isWellBy_44 3 rfl rfl (by decide) rfl ?_
          refine x_goto (tgt := 6) (pc := 47) X dX9_isWellBy_47 (by decide) ?_
          exact XW.sub [1, 2, 3, 0] rfl (ih6 _ _ h)
        · have h := ite_f c24 h
          refine x_iconst (v := 5) (pc := 31) X dX9_isWellBy_31 (by decide) ?_
          refine x_goto (tgt := 43) (pc := 32) X dX9_isWellBy_32 (by decide) ?_
          obtain ⟨g23, h⟩ := grd h
          obtain ⟨D23, w23, h⟩ := pass h
          refine x_iast (D' := D23) (pc := 43) X dX9_isWellBy_43 g23 w23 ?_
          refine x_iinc (v := i3 + 1) (lv' := [(3, .int (i3 + 1)), (0, .ref (cx.2.2 + a0)), (1, .int i1), (2, .int i2)]) (pc := 44) X dX9_isWellBy_44 3 rfl rfl (by decide) rfl ?_
          refine x_goto (tgt := 6) (pc := 47) X dX9_isWellBy_47 (by decide) ?_
          exact XW.sub [1, 2, 3, 0] rfl (ih6 _ _ h)
  refine x_aload_n (pc := 0) X dX9_isWellBy_0 (i := 0) rfl 0 rfl ?_
  obtain ⟨z1, e1, h⟩ := bnds h
  refine x_callV (pc := 1) (As := []) (st := []) (st' := []) X (c_M_take l cx nx N D P _ z1 e1) dX9_isWellBy_1 w_1112 m_M_take rfl hk0 (ci := 9) rfl rfl ⟨by decide, by decide⟩ ⟨Nat.zero_le _, Nat.zero_le _⟩ rfl (Nat.le_of_ble_eq_true rfl) rfl ?_
  refine x_iconst (v := 0) (pc := 4) X dX9_isWellBy_4 (by decide) ?_
  refine x_istore_n (lv' := [(3, .int 0), (0, .ref (cx.2.2 + a0)), (1, .int i1), (2, .int i2)]) (pc := 5) X dX9_isWellBy_5 (i := 3) rfl (by decide) rfl ?_
  exact XW.sub [1, 2, 3, 0] rfl (hL6 _ _ _ h)
theorem dX9_best_0 : decode cX9_best 0 = .ok (.iload_n 1, 1) := by decide +kernel
theorem dX9_best_1 : decode cX9_best 1 = .ok (.iconst 0, 1) := by decide +kernel
theorem dX9_best_2 : decode cX9_best 2 = .ok (.bipush 20, 2) := by decide +kernel
theorem dX9_best_4 : decode cX9_best 4 = .ok (.invokestatic 74, 3) := by decide +kernel
theorem dX9_best_7 : decode cX9_best 7 = .ok (.ifCond .eq 12, 3) := by decide +kernel
theorem dX9_best_10 : decode cX9_best 10 = .ok (.iload_n 2, 1) := by decide +kernel
theorem dX9_best_11 : decode cX9_best 11 = .ok (.iconst 0, 1) := by decide +kernel
theorem dX9_best_12 : decode cX9_best 12 = .ok (.iconst 1, 1) := by decide +kernel
theorem dX9_best_13 : decode cX9_best 13 = .ok (.invokestatic 74, 3) := by decide +kernel
theorem dX9_best_16 : decode cX9_best 16 = .ok (.ifCond .ne 5, 3) := by decide +kernel
theorem dX9_best_19 : decode cX9_best 19 = .ok (.iconst (-1), 1) := by decide +kernel
theorem dX9_best_20 : decode cX9_best 20 = .ok (.ireturn, 1) := by decide +kernel
theorem dX9_best_21 : decode cX9_best 21 = .ok (.aload_n 0, 1) := by decide +kernel
theorem dX9_best_22 : decode cX9_best 22 = .ok (.aload_n 0, 1) := by decide +kernel
theorem dX9_best_23 : decode cX9_best 23 = .ok (.getfield 35, 3) := by decide +kernel
theorem dX9_best_26 : decode cX9_best 26 = .ok (.invokevirtual 201, 3) := by decide +kernel
theorem dX9_best_29 : decode cX9_best 29 = .ok (.istore_n 3, 1) := by decide +kernel
theorem dX9_best_30 : decode cX9_best 30 = .ok (.bipush (-4), 2) := by decide +kernel
theorem dX9_best_32 : decode cX9_best 32 = .ok (.istore 4, 2) := by decide +kernel
theorem dX9_best_34 : decode cX9_best 34 = .ok (.iconst 0, 1) := by decide +kernel
theorem dX9_best_35 : decode cX9_best 35 = .ok (.istore 5, 2) := by decide +kernel
theorem dX9_best_37 : decode cX9_best 37 = .ok (.iload 5, 2) := by decide +kernel
theorem dX9_best_39 : decode cX9_best 39 = .ok (.iload_n 3, 1) := by decide +kernel
theorem dX9_best_40 : decode cX9_best 40 = .ok (.if_icmp .gt 57, 3) := by decide +kernel
theorem dX9_best_43 : decode cX9_best 43 = .ok (.iload 5, 2) := by decide +kernel
theorem dX9_best_45 : decode cX9_best 45 = .ok (.iload_n 3, 1) := by decide +kernel
theorem dX9_best_46 : decode cX9_best 46 = .ok (.iconst (-1), 1) := by decide +kernel
theorem dX9_best_47 : decode cX9_best 47 = .ok (.ixor, 1) := by decide +kernel
theorem dX9_best_48 : decode cX9_best 48 = .ok (.iand, 1) := by decide +kernel
theorem dX9_best_49 : decode cX9_best 49 = .ok (.ifCond .ne 42, 3) := by decide +kernel
theorem dX9_best_52 : decode cX9_best 52 = .ok (.iload 4, 2) := by decide +kernel
theorem dX9_best_54 : decode cX9_best 54 = .ok (.bipush (-4), 2) := by decide +kernel
theorem dX9_best_56 : decode cX9_best 56 = .ok (.if_icmp .eq 16, 3) := by decide +kernel
theorem dX9_best_59 : decode cX9_best 59 = .ok (.iload 5, 2) := by decide +kernel
theorem dX9_best_61 : decode cX9_best 61 = .ok (.invokestatic 203, 3) := by decide +kernel
theorem dX9_best_64 : decode cX9_best 64 = .ok (.iload 4, 2) := by decide +kernel
theorem dX9_best_66 : decode cX9_best 66 = .ok (.invokestatic 203, 3) := by decide +kernel
theorem dX9_best_69 : decode cX9_best 69 = .ok (.if_icmp .ge 22, 3) := by decide +kernel
theorem dX9_best_72 : decode cX9_best 72 = .ok (.aload_n 0, 1) := by decide +kernel
theorem dX9_best_73 : decode cX9_best 73 = .ok (.iload 5, 2) := by decide +kernel
theorem dX9_best_75 : decode cX9_best 75 = .ok (.iload_n 1, 1) := by decide +kernel
theorem dX9_best_76 : decode cX9_best 76 = .ok (.invokevirtual 207, 3) := by decide +kernel
theorem dX9_best_79 : decode cX9_best 79 = .ok (.ifCond .eq 8, 3) := by decide +kernel
theorem dX9_best_82 : decode cX9_best 82 = .ok (.iload 5, 2) := by decide +kernel
theorem dX9_best_84 : decode cX9_best 84 = .ok (.goto 5, 3) := by decide +kernel
theorem dX9_best_87 : decode cX9_best 87 = .ok (.iload 4, 2) := by decide +kernel
theorem dX9_best_89 : decode cX9_best 89 = .ok (.istore 4, 2) := by decide +kernel
theorem dX9_best_91 : decode cX9_best 91 = .ok (.iinc 5 1, 3) := by decide +kernel
theorem dX9_best_94 : decode cX9_best 94 = .ok (.goto (-57), 3) := by decide +kernel
theorem dX9_best_97 : decode cX9_best 97 = .ok (.iload 4, 2) := by decide +kernel
theorem dX9_best_99 : decode cX9_best 99 = .ok (.bipush (-4), 2) := by decide +kernel
theorem dX9_best_101 : decode cX9_best 101 = .ok (.if_icmp .eq 8, 3) := by decide +kernel
theorem dX9_best_104 : decode cX9_best 104 = .ok (.iload_n 2, 1) := by decide +kernel
theorem dX9_best_105 : decode cX9_best 105 = .ok (.iconst 1, 1) := by decide +kernel
theorem dX9_best_106 : decode cX9_best 106 = .ok (.if_icmp .ne 8, 3) := by decide +kernel
theorem dX9_best_109 : decode cX9_best 109 = .ok (.iload 4, 2) := by decide +kernel
theorem dX9_best_111 : decode cX9_best 111 = .ok (.goto 8, 3) := by decide +kernel
theorem dX9_best_114 : decode cX9_best 114 = .ok (.iload 4, 2) := by decide +kernel
theorem dX9_best_116 : decode cX9_best 116 = .ok (.invokestatic 203, 3) := by decide +kernel
theorem dX9_best_119 : decode cX9_best 119 = .ok (.ireturn, 1) := by decide +kernel
def f_M_best_72 (N nx : Nat) (rec37 : Dt → Int32 → Int32 → Option (Int32 × Dt)) (D : Dt) (P : Ft) (a0 : Nat) (i1 : Int32) (i2 : Int32) (i3 : Int32) (i4 : Int32) (i5 : Int32) : Option (Int32 × Dt) :=
  (f_M_isWellBy N nx D P a0 i5 i1).bind fun z8 =>
  if z8.1 = 0 then
    rec37 z8.2 i4 (i5 + 1)
  else
    rec37 z8.2 i5 (i5 + 1)
def f_M_best_37 (N nx : Nat) (P : Ft) (a0 : Nat) (i1 : Int32) (i2 : Int32) (i3 : Int32) (rec37 : Dt → Int32 → Int32 → Option (Int32 × Dt)) (D : Dt) (i4 : Int32) (i5 : Int32) : Option (Int32 × Dt) :=
  if i3 < i5 then
    if i4 = (-4) then
      some (i4, D)
    else
      if i2 = 1 then
        some (i4, D)
      else
        (f_M_bitsOf N nx D P i4).bind fun z5 =>
        some (z5, D)
  else
    if i5 &&& (i3 ^^^ (-1)) = 0 then
      if i4 = (-4) then
        f_M_best_72 N nx rec37 D P a0 i1 i2 i3 i4 i5
      else
        (f_M_bitsOf N nx D P i5).bind fun z10 =>
        (f_M_bitsOf N nx D P i4).bind fun z11 =>
        if z11 ≤ z10 then
          rec37 D i4 (i5 + 1)
        else
          f_M_best_72 N nx rec37 D P a0 i1 i2 i3 i4 i5
    else
      rec37 D i4 (i5 + 1)
def f_M_best (N nx : Nat) (D : Dt) (P : Ft) (a0 : Nat) (i1 : Int32) (i2 : Int32) : Option (Int32 × Dt) :=
  if kd nx a0 = 9 then
  (f_M_in N nx D P i1 0 20).bind fun z1 =>
  if z1 = 0 then
    some ((-1), D)
  else
    (f_M_in N nx D P i2 0 1).bind fun z2 =>
    if z2 = 0 then
      some ((-1), D)
    else
      nn (P a0 11) fun q3 =>
      (f_M_borne N nx D P a0 q3).bind fun z4 =>
      wk3 N (f_M_best_37 N nx P a0 i1 i2 z4) D (-4) 0
  else none
theorem m_M_best : MV yX9_best cX9_best 6 (some .int) 2 := ⟨mT 1131 (by decide +kernel) rfl, mT 1129 (by decide +kernel) rfl, mT 1130 (by decide +kernel) rfl, mT 68 (by decide +kernel) rfl, by decide +kernel, by decide +kernel, by decide +kernel⟩
set_option maxHeartbeats 4000000 in
set_option maxRecDepth 100000 in
theorem c_M_best (l : Launch) (cx : Cx) (nx N : Nat) (D : Dt) (P : Ft) (a0 : Nat) (i1 : Int32) (i2 : Int32) (z : Int32 × Dt) (h : f_M_best N nx D P a0 i1 i2 = some z) : Ct l cx yX9_best cX9_best 6 (some .int) 6 [.ref (cx.2.2 + a0), .int i1, .int i2] D P nx (some (.int z.1)) z.2 P := by
  refine x_met0 (by decide) (Nat.le_of_ble_eq_true rfl) ?_
  intro p e s m args below meth c X
  have X : XC p s m args meth c cx cX9_best 6 (some .int) "HeartPinsModel" "best" := X
  refine XW.sub (lv' := [(0, .ref (cx.2.2 + a0)), (1, .int i1), (2, .int i2)]) [0, 1, 2] rfl ?_
  unfold f_M_best at h
  obtain ⟨hk0, h⟩ := grd h
  have hL37 : ∀ (i3 : Int32) (n : Nat) (D : Dt) (i4 : Int32) (i5 : Int32), wk3 n (f_M_best_37 N nx P a0 i1 i2 i3) D i4 i5 = some z → XW p l e (rmk 6) s m args below meth c (MQ below (Qx cx (some (.int z.1)) z.2 P nx) args s 0 0 (AA cx)) cx 6 D P nx 0 0 37 [(0, .ref (cx.2.2 + a0)), (1, .int i1), (2, .int i2), (3, .int i3), (4, .int i4), (5, .int i5)] [] := by
    intro i3 n
    induction n with
    | zero => intro D i4 i5 h; exact (nonz h).elim
    | succ n ih37 =>
      intro D i4 i5 h
      have h : f_M_best_37 N nx P a0 i1 i2 i3 (wk3 n (f_M_best_37 N nx P a0 i1 i2 i3)) D i4 i5 = some z := h
      generalize wk3 n (f_M_best_37 N nx P a0 i1 i2 i3) = rec37 at ih37 h
      unfold f_M_best_37 at h
      have hJ72 : ∀ (D : Dt) (i4 : Int32) (i5 : Int32), f_M_best_72 N nx rec37 D P a0 i1 i2 i3 i4 i5 = some z → XW p l e (rmk 6) s m args below meth c (MQ below (Qx cx (some (.int z.1)) z.2 P nx) args s 0 0 (AA cx)) cx 6 D P nx 0 0 72 [(0, .ref (cx.2.2 + a0)), (1, .int i1), (2, .int i2), (3, .int i3), (4, .int i4), (5, .int i5)] [] := by
        intro D i4 i5 h
        unfold f_M_best_72 at h
        refine x_aload_n (pc := 72) X dX9_best_72 (i := 0) rfl 0 rfl ?_
        refine x_iload (pc := 73) X dX9_best_73 5 rfl ?_
        refine x_iload_n (pc := 75) X dX9_best_75 (i := 1) rfl 1 rfl ?_
        obtain ⟨z8, e8, h⟩ := bnds h
        refine x_callV (pc := 76) (As := [.int i5, .int i1]) (st := []) (st' := [.int z8.1]) X (c_M_isWellBy l cx nx N D P _ _ _ z8 e8) dX9_best_76 w_1139 m_M_isWellBy rfl hk0 (ci := 9) rfl rfl ⟨by decide, by decide⟩ ⟨Nat.zero_le _, Nat.zero_le _⟩ rfl (Nat.le_of_ble_eq_true rfl) rfl ?_
        refine x_if_eq (tgt := 87) (pc := 79) X dX9_best_79 (by decide) (fun c9 => ?_) (fun c9 => ?_)
        · have h := ite_t c9 h
          refine x_iload (pc := 87) X dX9_best_87 4 rfl ?_
          refine x_istore (lv' := [(4, .int i4), (0, .ref (cx.2.2 + a0)), (1, .int i1), (2, .int i2), (3, .int i3), (5, .int i5)]) (pc := 89) X dX9_best_89 (by decide) rfl ?_
          refine x_iinc (v := i5 + 1) (lv' := [(5, .int (i5 + 1)), (4, .int i4), (0, .ref (cx.2.2 + a0)), (1, .int i1), (2, .int i2), (3, .int i3)]) (pc := 91) X dX9_best_91 5 rfl rfl (by decide) rfl ?_
          refine x_goto (tgt := 37) (pc := 94) X dX9_best_94 (by decide) ?_
          exact XW.sub [2, 3, 4, 5, 1, 0] rfl (ih37 _ _ _ h)
        · have h := ite_f c9 h
          refine x_iload (pc := 82) X dX9_best_82 5 rfl ?_
          refine x_goto (tgt := 89) (pc := 84) X dX9_best_84 (by decide) ?_
          refine x_istore (lv' := [(4, .int i5), (0, .ref (cx.2.2 + a0)), (1, .int i1), (2, .int i2), (3, .int i3), (5, .int i5)]) (pc := 89) X dX9_best_89 (by decide) rfl ?_
          refine x_iinc (v := i5 + 1) (lv' := [(5, .int (i5 + 1)), (4, .int i5), (0, .ref (cx.2.2 + a0)), (1, .int i1), (2, .int i2), (3, .int i3)]) (pc := 91) X dX9_best_91 5 rfl rfl (by decide) rfl ?_
          refine x_goto (tgt := 37) (pc := 94) X dX9_best_94 (by decide) ?_
          exact XW.sub [2, 3, 4, 5, 1, 0] rfl (ih37 _ _ _ h)
      refine x_iload (pc := 37) X dX9_best_37 5 rfl ?_
      refine x_iload_n (pc := 39) X dX9_best_39 (i := 3) rfl 3 rfl ?_
      refine x_icmp_gt (tgt := 97) (pc := 40) X dX9_best_40 (by decide) (fun c15 => ?_) (fun c15 => ?_)
      · have h := ite_t c15 h
        refine x_iload (pc := 97) X dX9_best_97 4 rfl ?_
        refine x_bipush (v := (-4)) (pc := 99) X dX9_best_99 (by decide) ?_
        refine x_icmp_eq (tgt := 109) (pc := 101) X dX9_best_101 (by decide) (fun c7 => ?_) (fun c7 => ?_)
        · have h := ite_t c7 h
          refine x_iload (pc := 109) X dX9_best_109 4 rfl ?_
          refine x_goto (tgt := 119) (pc := 111) X dX9_best_111 (by decide) ?_
          obtain rfl := Option.some.inj h
          exact x_iret (pc := 119) X dX9_best_119
        · have h := ite_f c7 h
          refine x_iload_n (pc := 104) X dX9_best_104 (i := 2) rfl 2 rfl ?_
          refine x_iconst (v := 1) (pc := 105) X dX9_best_105 (by decide) ?_
          refine x_icmp_ne (tgt := 114) (pc := 106) X dX9_best_106 (by decide) (fun c6 => ?_) (fun c6 => ?_)
          · have h := ite_f c6 h
            refine x_iload (pc := 114) X dX9_best_114 4 rfl ?_
            obtain ⟨z5, e5, h⟩ := bnds h
            refine x_callS (pc := 116) (As := [.int i4]) (st := []) (st' := [.int z5]) X (c_M_bitsOf l cx nx N D P _ z5 e5) dX9_best_116 w_1136 m_M_bitsOf rfl ⟨by decide, by decide⟩ ⟨Nat.zero_le _, Nat.zero_le _⟩ rfl (Nat.le_of_ble_eq_true rfl) rfl ?_
            obtain rfl := Option.some.inj h
            exact x_iret (pc := 119) X dX9_best_119
          · have h := ite_t c6 h
            refine x_iload (pc := 109) X dX9_best_109 4 rfl ?_
            refine x_goto (tgt := 119) (pc := 111) X dX9_best_111 (by decide) ?_
            obtain rfl := Option.some.inj h
            exact x_iret (pc := 119) X dX9_best_119
      · have h := ite_f c15 h
        refine x_iload (pc := 43) X dX9_best_43 5 rfl ?_
        refine x_iload_n (pc := 45) X dX9_best_45 (i := 3) rfl 3 rfl ?_
        refine x_iconst (v := (-1)) (pc := 46) X dX9_best_46 (by decide) ?_
        refine x_ixor (pc := 47) X dX9_best_47 ?_
        refine x_iand (pc := 48) X dX9_best_48 ?_
        refine x_if_ne (tgt := 91) (pc := 49) X dX9_best_49 (by decide) (fun c14 => ?_) (fun c14 => ?_)
        · have h := ite_f c14 h
          refine x_iinc (v := i5 + 1) (lv' := [(5, .int (i5 + 1)), (0, .ref (cx.2.2 + a0)), (1, .int i1), (2, .int i2), (3, .int i3), (4, .int i4)]) (pc := 91) X dX9_best_91 5 rfl rfl (by decide) rfl ?_
          refine x_goto (tgt := 37) (pc := 94) X dX9_best_94 (by decide) ?_
          exact XW.sub [1, 2, 3, 4, 5, 0] rfl (ih37 _ _ _ h)
        · have h := ite_t c14 h
          refine x_iload (pc := 52) X dX9_best_52 4 rfl ?_
          refine x_bipush (v := (-4)) (pc := 54) X dX9_best_54 (by decide) ?_
          refine x_icmp_eq (tgt := 72) (pc := 56) X dX9_best_56 (by decide) (fun c13 => ?_) (fun c13 => ?_)
          · have h := ite_t c13 h
            exact XW.sub [0, 1, 2, 3, 4, 5] rfl (hJ72 _ _ _ h)
          · have h := ite_f c13 h
            refine x_iload (pc := 59) X dX9_best_59 5 rfl ?_
            obtain ⟨z10, e10, h⟩ := bnds h
            refine x_callS (pc := 61) (As := [.int i5]) (st := []) (st' := [.int z10]) X (c_M_bitsOf l cx nx N D P _ z10 e10) dX9_best_61 w_1136 m_M_bitsOf rfl ⟨by decide, by decide⟩ ⟨Nat.zero_le _, Nat.zero_le _⟩ rfl (Nat.le_of_ble_eq_true rfl) rfl ?_
            refine x_iload (pc := 64) X dX9_best_64 4 rfl ?_
            obtain ⟨z11, e11, h⟩ := bnds h
            refine x_callS (pc := 66) (As := [.int i4]) (st := [.int z10]) (st' := [.int z11, .int z10]) X (c_M_bitsOf l cx nx N D P _ z11 e11) dX9_best_66 w_1136 m_M_bitsOf rfl ⟨by decide, by decide⟩ ⟨Nat.zero_le _, Nat.zero_le _⟩ rfl (Nat.le_of_ble_eq_true rfl) rfl ?_
            refine x_icmp_ge (tgt := 91) (pc := 69) X dX9_best_69 (by decide) (fun c12 => ?_) (fun c12 => ?_)
            · have h := ite_t c12 h
              refine x_iinc (v := i5 + 1) (lv' := [(5, .int (i5 + 1)), (0, .ref (cx.2.2 + a0)), (1, .int i1), (2, .int i2), (3, .int i3), (4, .int i4)]) (pc := 91) X dX9_best_91 5 rfl rfl (by decide) rfl ?_
              refine x_goto (tgt := 37) (pc := 94) X dX9_best_94 (by decide) ?_
              exact XW.sub [1, 2, 3, 4, 5, 0] rfl (ih37 _ _ _ h)
            · have h := ite_f c12 h
              exact XW.sub [0, 1, 2, 3, 4, 5] rfl (hJ72 _ _ _ h)
  refine x_iload_n (pc := 0) X dX9_best_0 (i := 1) rfl 1 rfl ?_
  refine x_iconst (v := 0) (pc := 1) X dX9_best_1 (by decide) ?_
  refine x_bipush (v := 20) (pc := 2) X dX9_best_2 (by decide) ?_
  obtain ⟨z1, e1, h⟩ := bnds h
  refine x_callS (pc := 4) (As := [.int i1, .int 0, .int 20]) (st := []) (st' := [.int z1]) X (c_M_in l cx nx N D P _ _ _ z1 e1) dX9_best_4 w_972 m_M_in rfl ⟨by decide, by decide⟩ ⟨Nat.zero_le _, Nat.zero_le _⟩ rfl (Nat.le_of_ble_eq_true rfl) rfl ?_
  refine x_if_eq (tgt := 19) (pc := 7) X dX9_best_7 (by decide) (fun c17 => ?_) (fun c17 => ?_)
  · have h := ite_t c17 h
    refine x_iconst (v := (-1)) (pc := 19) X dX9_best_19 (by decide) ?_
    obtain rfl := Option.some.inj h
    exact x_iret (pc := 20) X dX9_best_20
  · have h := ite_f c17 h
    refine x_iload_n (pc := 10) X dX9_best_10 (i := 2) rfl 2 rfl ?_
    refine x_iconst (v := 0) (pc := 11) X dX9_best_11 (by decide) ?_
    refine x_iconst (v := 1) (pc := 12) X dX9_best_12 (by decide) ?_
    obtain ⟨z2, e2, h⟩ := bnds h
    refine x_callS (pc := 13) (As := [.int i2, .int 0, .int 1]) (st := []) (st' := [.int z2]) X (c_M_in l cx nx N D P _ _ _ z2 e2) dX9_best_13 w_972 m_M_in rfl ⟨by decide, by decide⟩ ⟨Nat.zero_le _, Nat.zero_le _⟩ rfl (Nat.le_of_ble_eq_true rfl) rfl ?_
    refine x_if_ne (tgt := 21) (pc := 16) X dX9_best_16 (by decide) (fun c16 => ?_) (fun c16 => ?_)
    · have h := ite_f c16 h
      refine x_aload_n (pc := 21) X dX9_best_21 (i := 0) rfl 0 rfl ?_
      refine x_aload_n (pc := 22) X dX9_best_22 (i := 0) rfl 0 rfl ?_
      obtain ⟨q3, e3, h⟩ := nns h
      refine x_getr (ci := 9) (k := 11) (n := 26) (C := RX9) (T := TX9) (pc := 23) X dX9_best_23 hk0 rfl (by decide) w_900 rfl e3 ?_
      obtain ⟨z4, e4, h⟩ := bnds h
      refine x_callV (pc := 26) (As := [.ref (cx.2.2 + q3)]) (st := []) (st' := [.int z4]) X (c_M_borne l cx nx N D P _ _ z4 e4) dX9_best_26 w_1132 m_M_borne rfl hk0 (ci := 9) rfl rfl ⟨by decide, by decide⟩ ⟨Nat.zero_le _, Nat.zero_le _⟩ rfl (Nat.le_of_ble_eq_true rfl) rfl ?_
      refine x_istore_n (lv' := [(3, .int z4), (0, .ref (cx.2.2 + a0)), (1, .int i1), (2, .int i2)]) (pc := 29) X dX9_best_29 (i := 3) rfl (by decide) rfl ?_
      refine x_bipush (v := (-4)) (pc := 30) X dX9_best_30 (by decide) ?_
      refine x_istore (lv' := [(4, .int (-4)), (3, .int z4), (0, .ref (cx.2.2 + a0)), (1, .int i1), (2, .int i2)]) (pc := 32) X dX9_best_32 (by decide) rfl ?_
      refine x_iconst (v := 0) (pc := 34) X dX9_best_34 (by decide) ?_
      refine x_istore (lv' := [(5, .int 0), (4, .int (-4)), (3, .int z4), (0, .ref (cx.2.2 + a0)), (1, .int i1), (2, .int i2)]) (pc := 35) X dX9_best_35 (by decide) rfl ?_
      exact XW.sub [3, 4, 5, 2, 1, 0] rfl (hL37 _ _ _ _ _ h)
    · have h := ite_t c16 h
      refine x_iconst (v := (-1)) (pc := 19) X dX9_best_19 (by decide) ?_
      obtain rfl := Option.some.inj h
      exact x_iret (pc := 20) X dX9_best_20
theorem dX9_leastFor_0 : decode cX9_leastFor 0 = .ok (.iconst 0, 1) := by decide +kernel
theorem dX9_leastFor_1 : decode cX9_leastFor 1 = .ok (.istore_n 2, 1) := by decide +kernel
theorem dX9_leastFor_2 : decode cX9_leastFor 2 = .ok (.iload_n 2, 1) := by decide +kernel
theorem dX9_leastFor_3 : decode cX9_leastFor 3 = .ok (.sipush 256, 3) := by decide +kernel
theorem dX9_leastFor_6 : decode cX9_leastFor 6 = .ok (.if_icmp .ge 36, 3) := by decide +kernel
theorem dX9_leastFor_9 : decode cX9_leastFor 9 = .ok (.aload_n 0, 1) := by decide +kernel
theorem dX9_leastFor_10 : decode cX9_leastFor 10 = .ok (.getfield 50, 3) := by decide +kernel
theorem dX9_leastFor_13 : decode cX9_leastFor 13 = .ok (.sipush 256, 3) := by decide +kernel
theorem dX9_leastFor_16 : decode cX9_leastFor 16 = .ok (.aload_n 0, 1) := by decide +kernel
theorem dX9_leastFor_17 : decode cX9_leastFor 17 = .ok (.getfield 13, 3) := by decide +kernel
theorem dX9_leastFor_20 : decode cX9_leastFor 20 = .ok (.iconst 0, 1) := by decide +kernel
theorem dX9_leastFor_21 : decode cX9_leastFor 21 = .ok (.iaload, 1) := by decide +kernel
theorem dX9_leastFor_22 : decode cX9_leastFor 22 = .ok (.imul, 1) := by decide +kernel
theorem dX9_leastFor_23 : decode cX9_leastFor 23 = .ok (.iload_n 2, 1) := by decide +kernel
theorem dX9_leastFor_24 : decode cX9_leastFor 24 = .ok (.iadd, 1) := by decide +kernel
theorem dX9_leastFor_25 : decode cX9_leastFor 25 = .ok (.iload_n 2, 1) := by decide +kernel
theorem dX9_leastFor_26 : decode cX9_leastFor 26 = .ok (.ifCond .ne 7, 3) := by decide +kernel
theorem dX9_leastFor_29 : decode cX9_leastFor 29 = .ok (.iconst 0, 1) := by decide +kernel
theorem dX9_leastFor_30 : decode cX9_leastFor 30 = .ok (.goto 5, 3) := by decide +kernel
theorem dX9_leastFor_33 : decode cX9_leastFor 33 = .ok (.ldc 210, 2) := by decide +kernel
theorem dX9_leastFor_35 : decode cX9_leastFor 35 = .ok (.iastore, 1) := by decide +kernel
theorem dX9_leastFor_36 : decode cX9_leastFor 36 = .ok (.iinc 2 1, 3) := by decide +kernel
theorem dX9_leastFor_39 : decode cX9_leastFor 39 = .ok (.goto (-37), 3) := by decide +kernel
theorem dX9_leastFor_42 : decode cX9_leastFor 42 = .ok (.aload_n 0, 1) := by decide +kernel
theorem dX9_leastFor_43 : decode cX9_leastFor 43 = .ok (.getfield 13, 3) := by decide +kernel
theorem dX9_leastFor_46 : decode cX9_leastFor 46 = .ok (.iconst 0, 1) := by decide +kernel
theorem dX9_leastFor_47 : decode cX9_leastFor 47 = .ok (.iaload, 1) := by decide +kernel
theorem dX9_leastFor_48 : decode cX9_leastFor 48 = .ok (.iconst 1, 1) := by decide +kernel
theorem dX9_leastFor_49 : decode cX9_leastFor 49 = .ok (.isub, 1) := by decide +kernel
theorem dX9_leastFor_50 : decode cX9_leastFor 50 = .ok (.istore_n 2, 1) := by decide +kernel
theorem dX9_leastFor_51 : decode cX9_leastFor 51 = .ok (.iload_n 2, 1) := by decide +kernel
theorem dX9_leastFor_52 : decode cX9_leastFor 52 = .ok (.ifCond .lt 150, 3) := by decide +kernel
theorem dX9_leastFor_55 : decode cX9_leastFor 55 = .ok (.iconst 0, 1) := by decide +kernel
theorem dX9_leastFor_56 : decode cX9_leastFor 56 = .ok (.istore_n 3, 1) := by decide +kernel
theorem dX9_leastFor_57 : decode cX9_leastFor 57 = .ok (.iload_n 3, 1) := by decide +kernel
theorem dX9_leastFor_58 : decode cX9_leastFor 58 = .ok (.sipush 256, 3) := by decide +kernel
theorem dX9_leastFor_61 : decode cX9_leastFor 61 = .ok (.if_icmp .ge 135, 3) := by decide +kernel
theorem dX9_leastFor_64 : decode cX9_leastFor 64 = .ok (.ldc 210, 2) := by decide +kernel
theorem dX9_leastFor_66 : decode cX9_leastFor 66 = .ok (.istore 4, 2) := by decide +kernel
theorem dX9_leastFor_68 : decode cX9_leastFor 68 = .ok (.iload_n 3, 1) := by decide +kernel
theorem dX9_leastFor_69 : decode cX9_leastFor 69 = .ok (.istore 5, 2) := by decide +kernel
theorem dX9_leastFor_71 : decode cX9_leastFor 71 = .ok (.iload 5, 2) := by decide +kernel
theorem dX9_leastFor_73 : decode cX9_leastFor 73 = .ok (.ifCond .lt 103, 3) := by decide +kernel
theorem dX9_leastFor_76 : decode cX9_leastFor 76 = .ok (.iload_n 3, 1) := by decide +kernel
theorem dX9_leastFor_77 : decode cX9_leastFor 77 = .ok (.iload_n 1, 1) := by decide +kernel
theorem dX9_leastFor_78 : decode cX9_leastFor 78 = .ok (.iconst (-1), 1) := by decide +kernel
theorem dX9_leastFor_79 : decode cX9_leastFor 79 = .ok (.ixor, 1) := by decide +kernel
theorem dX9_leastFor_80 : decode cX9_leastFor 80 = .ok (.iand, 1) := by decide +kernel
theorem dX9_leastFor_81 : decode cX9_leastFor 81 = .ok (.ifCond .ne 95, 3) := by decide +kernel
theorem dX9_leastFor_84 : decode cX9_leastFor 84 = .ok (.aload_n 0, 1) := by decide +kernel
theorem dX9_leastFor_85 : decode cX9_leastFor 85 = .ok (.getfield 47, 3) := by decide +kernel
theorem dX9_leastFor_88 : decode cX9_leastFor 88 = .ok (.iload_n 2, 1) := by decide +kernel
theorem dX9_leastFor_89 : decode cX9_leastFor 89 = .ok (.iaload, 1) := by decide +kernel
theorem dX9_leastFor_90 : decode cX9_leastFor 90 = .ok (.aload_n 0, 1) := by decide +kernel
theorem dX9_leastFor_91 : decode cX9_leastFor 91 = .ok (.aload_n 0, 1) := by decide +kernel
theorem dX9_leastFor_92 : decode cX9_leastFor 92 = .ok (.getfield 35, 3) := by decide +kernel
theorem dX9_leastFor_95 : decode cX9_leastFor 95 = .ok (.iload 5, 2) := by decide +kernel
theorem dX9_leastFor_97 : decode cX9_leastFor 97 = .ok (.invokevirtual 157, 3) := by decide +kernel
theorem dX9_leastFor_100 : decode cX9_leastFor 100 = .ok (.iadd, 1) := by decide +kernel
theorem dX9_leastFor_101 : decode cX9_leastFor 101 = .ok (.istore 6, 2) := by decide +kernel
theorem dX9_leastFor_103 : decode cX9_leastFor 103 = .ok (.aload_n 0, 1) := by decide +kernel
theorem dX9_leastFor_104 : decode cX9_leastFor 104 = .ok (.getfield 50, 3) := by decide +kernel
theorem dX9_leastFor_107 : decode cX9_leastFor 107 = .ok (.sipush 256, 3) := by decide +kernel
theorem dX9_leastFor_110 : decode cX9_leastFor 110 = .ok (.iload_n 2, 1) := by decide +kernel
theorem dX9_leastFor_111 : decode cX9_leastFor 111 = .ok (.iconst 1, 1) := by decide +kernel
theorem dX9_leastFor_112 : decode cX9_leastFor 112 = .ok (.iadd, 1) := by decide +kernel
theorem dX9_leastFor_113 : decode cX9_leastFor 113 = .ok (.imul, 1) := by decide +kernel
theorem dX9_leastFor_114 : decode cX9_leastFor 114 = .ok (.iload_n 3, 1) := by decide +kernel
theorem dX9_leastFor_115 : decode cX9_leastFor 115 = .ok (.iload 5, 2) := by decide +kernel
theorem dX9_leastFor_117 : decode cX9_leastFor 117 = .ok (.iconst (-1), 1) := by decide +kernel
theorem dX9_leastFor_118 : decode cX9_leastFor 118 = .ok (.ixor, 1) := by decide +kernel
theorem dX9_leastFor_119 : decode cX9_leastFor 119 = .ok (.iand, 1) := by decide +kernel
theorem dX9_leastFor_120 : decode cX9_leastFor 120 = .ok (.iadd, 1) := by decide +kernel
theorem dX9_leastFor_121 : decode cX9_leastFor 121 = .ok (.iaload, 1) := by decide +kernel
theorem dX9_leastFor_122 : decode cX9_leastFor 122 = .ok (.istore 7, 2) := by decide +kernel
theorem dX9_leastFor_124 : decode cX9_leastFor 124 = .ok (.iload 6, 2) := by decide +kernel
theorem dX9_leastFor_126 : decode cX9_leastFor 126 = .ok (.iload 7, 2) := by decide +kernel
theorem dX9_leastFor_128 : decode cX9_leastFor 128 = .ok (.if_icmp .le 8, 3) := by decide +kernel
theorem dX9_leastFor_131 : decode cX9_leastFor 131 = .ok (.iload 6, 2) := by decide +kernel
theorem dX9_leastFor_133 : decode cX9_leastFor 133 = .ok (.goto 5, 3) := by decide +kernel
theorem dX9_leastFor_136 : decode cX9_leastFor 136 = .ok (.iload 7, 2) := by decide +kernel
theorem dX9_leastFor_138 : decode cX9_leastFor 138 = .ok (.istore 8, 2) := by decide +kernel
theorem dX9_leastFor_140 : decode cX9_leastFor 140 = .ok (.iload 8, 2) := by decide +kernel
theorem dX9_leastFor_142 : decode cX9_leastFor 142 = .ok (.iload 4, 2) := by decide +kernel
theorem dX9_leastFor_144 : decode cX9_leastFor 144 = .ok (.if_icmp .ge 8, 3) := by decide +kernel
theorem dX9_leastFor_147 : decode cX9_leastFor 147 = .ok (.iload 8, 2) := by decide +kernel
theorem dX9_leastFor_149 : decode cX9_leastFor 149 = .ok (.goto 5, 3) := by decide +kernel
theorem dX9_leastFor_152 : decode cX9_leastFor 152 = .ok (.iload 4, 2) := by decide +kernel
theorem dX9_leastFor_154 : decode cX9_leastFor 154 = .ok (.istore 4, 2) := by decide +kernel
theorem dX9_leastFor_156 : decode cX9_leastFor 156 = .ok (.iload 5, 2) := by decide +kernel
theorem dX9_leastFor_158 : decode cX9_leastFor 158 = .ok (.ifCond .ne 7, 3) := by decide +kernel
theorem dX9_leastFor_161 : decode cX9_leastFor 161 = .ok (.iconst (-1), 1) := by decide +kernel
theorem dX9_leastFor_162 : decode cX9_leastFor 162 = .ok (.goto 9, 3) := by decide +kernel
theorem dX9_leastFor_165 : decode cX9_leastFor 165 = .ok (.iload 5, 2) := by decide +kernel
theorem dX9_leastFor_167 : decode cX9_leastFor 167 = .ok (.iconst 1, 1) := by decide +kernel
theorem dX9_leastFor_168 : decode cX9_leastFor 168 = .ok (.isub, 1) := by decide +kernel
theorem dX9_leastFor_169 : decode cX9_leastFor 169 = .ok (.iload_n 3, 1) := by decide +kernel
theorem dX9_leastFor_170 : decode cX9_leastFor 170 = .ok (.iand, 1) := by decide +kernel
theorem dX9_leastFor_171 : decode cX9_leastFor 171 = .ok (.istore 5, 2) := by decide +kernel
theorem dX9_leastFor_173 : decode cX9_leastFor 173 = .ok (.goto (-102), 3) := by decide +kernel
theorem dX9_leastFor_176 : decode cX9_leastFor 176 = .ok (.aload_n 0, 1) := by decide +kernel
theorem dX9_leastFor_177 : decode cX9_leastFor 177 = .ok (.getfield 50, 3) := by decide +kernel
theorem dX9_leastFor_180 : decode cX9_leastFor 180 = .ok (.sipush 256, 3) := by decide +kernel
theorem dX9_leastFor_183 : decode cX9_leastFor 183 = .ok (.iload_n 2, 1) := by decide +kernel
theorem dX9_leastFor_184 : decode cX9_leastFor 184 = .ok (.imul, 1) := by decide +kernel
theorem dX9_leastFor_185 : decode cX9_leastFor 185 = .ok (.iload_n 3, 1) := by decide +kernel
theorem dX9_leastFor_186 : decode cX9_leastFor 186 = .ok (.iadd, 1) := by decide +kernel
theorem dX9_leastFor_187 : decode cX9_leastFor 187 = .ok (.iload 4, 2) := by decide +kernel
theorem dX9_leastFor_189 : decode cX9_leastFor 189 = .ok (.iastore, 1) := by decide +kernel
theorem dX9_leastFor_190 : decode cX9_leastFor 190 = .ok (.iinc 3 1, 3) := by decide +kernel
theorem dX9_leastFor_193 : decode cX9_leastFor 193 = .ok (.goto (-136), 3) := by decide +kernel
theorem dX9_leastFor_196 : decode cX9_leastFor 196 = .ok (.iinc 2 (-1), 3) := by decide +kernel
theorem dX9_leastFor_199 : decode cX9_leastFor 199 = .ok (.goto (-148), 3) := by decide +kernel
theorem dX9_leastFor_202 : decode cX9_leastFor 202 = .ok (.aload_n 0, 1) := by decide +kernel
theorem dX9_leastFor_203 : decode cX9_leastFor 203 = .ok (.getfield 50, 3) := by decide +kernel
theorem dX9_leastFor_206 : decode cX9_leastFor 206 = .ok (.iload_n 1, 1) := by decide +kernel
theorem dX9_leastFor_207 : decode cX9_leastFor 207 = .ok (.iaload, 1) := by decide +kernel
theorem dX9_leastFor_208 : decode cX9_leastFor 208 = .ok (.ireturn, 1) := by decide +kernel
def f_M_leastFor_176 (N nx : Nat) (rec51 : Dt → Int32 → Option (Int32 × Dt)) (rec57 : Dt → Int32 → Option (Int32 × Dt)) (D : Dt) (P : Ft) (a0 : Nat) (i1 : Int32) (i2 : Int32) (i3 : Int32) (i4 : Int32) : Option (Int32 × Dt) :=
  nn (P a0 18) fun q5 =>
  if ab nx q5 3 ((256 * i2) + i3) = true then
  pas (upd2 D q5 ((256 * i2) + i3).toNatClampNeg i4) fun D6 =>
  rec57 D6 (i3 + 1)
  else none
def f_M_leastFor_154 (N nx : Nat) (rec51 : Dt → Int32 → Option (Int32 × Dt)) (rec57 : Dt → Int32 → Option (Int32 × Dt)) (rec71 : Int32 → Int32 → Option (Int32 × Dt)) (D : Dt) (P : Ft) (a0 : Nat) (i1 : Int32) (i2 : Int32) (i3 : Int32) (i5 : Int32) (s0 : Int32) : Option (Int32 × Dt) :=
  if i5 = 0 then
    rec71 s0 (-1)
  else
    rec71 s0 ((i5 - 1) &&& i3)
def f_M_leastFor_138 (N nx : Nat) (rec51 : Dt → Int32 → Option (Int32 × Dt)) (rec57 : Dt → Int32 → Option (Int32 × Dt)) (rec71 : Int32 → Int32 → Option (Int32 × Dt)) (D : Dt) (P : Ft) (a0 : Nat) (i1 : Int32) (i2 : Int32) (i3 : Int32) (i4 : Int32) (i5 : Int32) (s0 : Int32) : Option (Int32 × Dt) :=
  if i4 ≤ s0 then
    f_M_leastFor_154 N nx rec51 rec57 rec71 D P a0 i1 i2 i3 i5 i4
  else
    f_M_leastFor_154 N nx rec51 rec57 rec71 D P a0 i1 i2 i3 i5 s0
def f_M_leastFor_71 (N nx : Nat) (rec51 : Dt → Int32 → Option (Int32 × Dt)) (rec57 : Dt → Int32 → Option (Int32 × Dt)) (D : Dt) (P : Ft) (a0 : Nat) (i1 : Int32) (i2 : Int32) (i3 : Int32) (rec71 : Int32 → Int32 → Option (Int32 × Dt)) (i4 : Int32) (i5 : Int32) : Option (Int32 × Dt) :=
  if i5 < 0 then
    f_M_leastFor_176 N nx rec51 rec57 D P a0 i1 i2 i3 i4
  else
    if i3 &&& (i1 ^^^ (-1)) = 0 then
      nn (P a0 17) fun q7 =>
      if ab nx q7 3 i2 = true then
      nn (P a0 11) fun q9 =>
      (f_M_sizeOf N nx D P a0 q9 i5).bind fun z10 =>
      nn (P a0 18) fun q11 =>
      if ab nx q11 3 ((256 * (i2 + 1)) + (i3 &&& (i5 ^^^ (-1)))) = true then
      pas (D q11 ((256 * (i2 + 1)) + (i3 &&& (i5 ^^^ (-1)))).toNatClampNeg) fun v13 =>
      if (D q7 i2.toNatClampNeg) + z10 ≤ v13 then
        f_M_leastFor_138 N nx rec51 rec57 rec71 D P a0 i1 i2 i3 i4 i5 v13
      else
        f_M_leastFor_138 N nx rec51 rec57 rec71 D P a0 i1 i2 i3 i4 i5 ((D q7 i2.toNatClampNeg) + z10)
      else none
      else none
    else
      f_M_leastFor_176 N nx rec51 rec57 D P a0 i1 i2 i3 i4
def f_M_leastFor_57 (N nx : Nat) (rec51 : Dt → Int32 → Option (Int32 × Dt)) (P : Ft) (a0 : Nat) (i1 : Int32) (i2 : Int32) (rec57 : Dt → Int32 → Option (Int32 × Dt)) (D : Dt) (i3 : Int32) : Option (Int32 × Dt) :=
  if 256 ≤ i3 then
    rec51 D (i2 + (-1))
  else
    wk2 N (f_M_leastFor_71 N nx rec51 rec57 D P a0 i1 i2 i3) 100000 i3
def f_M_leastFor_51 (N nx : Nat) (P : Ft) (a0 : Nat) (i1 : Int32) (rec51 : Dt → Int32 → Option (Int32 × Dt)) (D : Dt) (i2 : Int32) : Option (Int32 × Dt) :=
  if i2 < 0 then
    nn (P a0 18) fun q3 =>
    if ab nx q3 3 i1 = true then
    some (D q3 i1.toNatClampNeg, D)
    else none
  else
    wk2 N (f_M_leastFor_57 N nx rec51 P a0 i1 i2) D 0
def f_M_leastFor_2 (N nx : Nat) (P : Ft) (a0 : Nat) (i1 : Int32) (rec2 : Dt → Int32 → Option (Int32 × Dt)) (D : Dt) (i2 : Int32) : Option (Int32 × Dt) :=
  if 256 ≤ i2 then
    nn (P a0 2) fun q1 =>
    if ab nx q1 3 0 = true then
    wk2 N (f_M_leastFor_51 N nx P a0 i1) D ((D q1 (0 : Int32).toNatClampNeg) - 1)
    else none
  else
    nn (P a0 18) fun q21 =>
    nn (P a0 2) fun q22 =>
    if ab nx q22 3 0 = true then
    if i2 = 0 then
      if ab nx q21 3 ((256 * (D q22 (0 : Int32).toNatClampNeg)) + i2) = true then
      pas (upd2 D q21 ((256 * (D q22 (0 : Int32).toNatClampNeg)) + i2).toNatClampNeg 0) fun D25 =>
      rec2 D25 (i2 + 1)
      else none
    else
      if ab nx q21 3 ((256 * (D q22 (0 : Int32).toNatClampNeg)) + i2) = true then
      pas (upd2 D q21 ((256 * (D q22 (0 : Int32).toNatClampNeg)) + i2).toNatClampNeg 100000) fun D24 =>
      rec2 D24 (i2 + 1)
      else none
    else none
def f_M_leastFor (N nx : Nat) (D : Dt) (P : Ft) (a0 : Nat) (i1 : Int32) : Option (Int32 × Dt) :=
  if kd nx a0 = 9 then
  wk2 N (f_M_leastFor_2 N nx P a0 i1) D 0
  else none
theorem m_M_leastFor : MV yX9_leastFor cX9_leastFor 9 (some .int) 1 := ⟨mT 1154 (by decide +kernel) rfl, mT 1153 (by decide +kernel) rfl, mT 47 (by decide +kernel) rfl, mT 68 (by decide +kernel) rfl, by decide +kernel, by decide +kernel, by decide +kernel⟩
set_option maxHeartbeats 4000000 in
set_option maxRecDepth 100000 in
theorem c_M_leastFor (l : Launch) (cx : Cx) (nx N : Nat) (D : Dt) (P : Ft) (a0 : Nat) (i1 : Int32) (z : Int32 × Dt) (h : f_M_leastFor N nx D P a0 i1 = some z) : Ct l cx yX9_leastFor cX9_leastFor 9 (some .int) 2 [.ref (cx.2.2 + a0), .int i1] D P nx (some (.int z.1)) z.2 P := by
  refine x_met0 (by decide) (Nat.le_of_ble_eq_true rfl) ?_
  intro p e s m args below meth c X
  have X : XC p s m args meth c cx cX9_leastFor 9 (some .int) "HeartPinsModel" "leastFor" := X
  refine XW.sub (lv' := [(0, .ref (cx.2.2 + a0)), (1, .int i1)]) [0, 1] rfl ?_
  unfold f_M_leastFor at h
  obtain ⟨hk0, h⟩ := grd h
  have hL51 : ∀ (n : Nat) (D : Dt) (i2 : Int32), wk2 n (f_M_leastFor_51 N nx P a0 i1) D i2 = some z → XW p l e (rmk 2) s m args below meth c (MQ below (Qx cx (some (.int z.1)) z.2 P nx) args s 0 0 (AA cx)) cx 9 D P nx 0 0 51 [(0, .ref (cx.2.2 + a0)), (1, .int i1), (2, .int i2)] [] := by
    intro n
    induction n with
    | zero => intro D i2 h; exact (nonz h).elim
    | succ n ih51 =>
      intro D i2 h
      have h : f_M_leastFor_51 N nx P a0 i1 (wk2 n (f_M_leastFor_51 N nx P a0 i1)) D i2 = some z := h
      generalize wk2 n (f_M_leastFor_51 N nx P a0 i1) = rec51 at ih51 h
      unfold f_M_leastFor_51 at h
      have hL57 : ∀ (i2 : Int32) (n : Nat) (D : Dt) (i3 : Int32), wk2 n (f_M_leastFor_57 N nx rec51 P a0 i1 i2) D i3 = some z → XW p l e (rmk 2) s m args below meth c (MQ below (Qx cx (some (.int z.1)) z.2 P nx) args s 0 0 (AA cx)) cx 9 D P nx 0 0 57 [(0, .ref (cx.2.2 + a0)), (1, .int i1), (2, .int i2), (3, .int i3)] [] := by
        intro i2 n
        induction n with
        | zero => intro D i3 h; exact (nonz h).elim
        | succ n ih57 =>
          intro D i3 h
          have h : f_M_leastFor_57 N nx rec51 P a0 i1 i2 (wk2 n (f_M_leastFor_57 N nx rec51 P a0 i1 i2)) D i3 = some z := h
          generalize wk2 n (f_M_leastFor_57 N nx rec51 P a0 i1 i2) = rec57 at ih57 h
          unfold f_M_leastFor_57 at h
          have hJ176 : ∀ (D : Dt) (i3 : Int32) (i4 : Int32), f_M_leastFor_176 N nx rec51 rec57 D P a0 i1 i2 i3 i4 = some z → XW p l e (rmk 2) s m args below meth c (MQ below (Qx cx (some (.int z.1)) z.2 P nx) args s 0 0 (AA cx)) cx 9 D P nx 0 0 176 [(0, .ref (cx.2.2 + a0)), (1, .int i1), (2, .int i2), (3, .int i3), (4, .int i4)] [] := by
            intro D i3 i4 h
            unfold f_M_leastFor_176 at h
            refine x_aload_n (pc := 176) X dX9_leastFor_176 (i := 0) rfl 0 rfl ?_
            obtain ⟨q5, e5, h⟩ := nns h
            refine x_getr (ci := 9) (k := 18) (n := 26) (C := RX9) (T := TX9) (pc := 177) X dX9_leastFor_177 hk0 rfl (by decide) w_907 rfl e5 ?_
            refine x_sipush (v := 256) (pc := 180) X dX9_leastFor_180 (by decide) ?_
            refine x_iload_n (pc := 183) X dX9_leastFor_183 (i := 2) rfl 2 rfl ?_
            refine x_imul (pc := 184) X dX9_leastFor_184 ?_
            refine x_iload_n (pc := 185) X dX9_leastFor_185 (i := 3) rfl 3 rfl ?_
            refine x_iadd (pc := 186) X dX9_leastFor_186 ?_
            refine x_iload (pc := 187) X dX9_leastFor_187 4 rfl ?_
            obtain ⟨g6, h⟩ := grd h
            obtain ⟨D6, w6, h⟩ := pass h
            refine x_iast (D' := D6) (pc := 189) X dX9_leastFor_189 g6 w6 ?_
            refine x_iinc (v := i3 + 1) (lv' := [(3, .int (i3 + 1)), (0, .ref (cx.2.2 + a0)), (1, .int i1), (2, .int i2), (4, .int i4)]) (pc := 190) X dX9_leastFor_190 3 rfl rfl (by decide) rfl ?_
            refine x_goto (tgt := 57) (pc := 193) X dX9_leastFor_193 (by decide) ?_
            exact XW.sub [1, 2, 3, 0] rfl (ih57 _ _ h)
          have hL71 : ∀ (D : Dt) (i3 : Int32) (n : Nat) (i4 : Int32) (i5 : Int32), wk2 n (f_M_leastFor_71 N nx rec51 rec57 D P a0 i1 i2 i3) i4 i5 = some z → XW p l e (rmk 2) s m args below meth c (MQ below (Qx cx (some (.int z.1)) z.2 P nx) args s 0 0 (AA cx)) cx 9 D P nx 0 0 71 [(0, .ref (cx.2.2 + a0)), (1, .int i1), (2, .int i2), (3, .int i3), (4, .int i4), (5, .int i5)] [] := by
            intro D i3 n
            induction n with
            | zero => intro i4 i5 h; exact (nonz h).elim
            | succ n ih71 =>
              intro i4 i5 h
              have h : f_M_leastFor_71 N nx rec51 rec57 D P a0 i1 i2 i3 (wk2 n (f_M_leastFor_71 N nx rec51 rec57 D P a0 i1 i2 i3)) i4 i5 = some z := h
              generalize wk2 n (f_M_leastFor_71 N nx rec51 rec57 D P a0 i1 i2 i3) = rec71 at ih71 h
              unfold f_M_leastFor_71 at h
              have hJ154 : ∀ (i5 : Int32) (s0 : Int32), f_M_leastFor_154 N nx rec51 rec57 rec71 D P a0 i1 i2 i3 i5 s0 = some z → XW p l e (rmk 2) s m args below meth c (MQ below (Qx cx (some (.int z.1)) z.2 P nx) args s 0 0 (AA cx)) cx 9 D P nx 0 0 154 [(0, .ref (cx.2.2 + a0)), (1, .int i1), (2, .int i2), (3, .int i3), (5, .int i5)] [.int s0] := by
                intro i5 s0 h
                unfold f_M_leastFor_154 at h
                refine x_istore (lv' := [(4, .int s0), (0, .ref (cx.2.2 + a0)), (1, .int i1), (2, .int i2), (3, .int i3), (5, .int i5)]) (pc := 154) X dX9_leastFor_154 (by decide) rfl ?_
                refine x_iload (pc := 156) X dX9_leastFor_156 5 rfl ?_
                refine x_if_ne (tgt := 165) (pc := 158) X dX9_leastFor_158 (by decide) (fun c14 => ?_) (fun c14 => ?_)
                · have h := ite_f c14 h
                  refine x_iload (pc := 165) X dX9_leastFor_165 5 rfl ?_
                  refine x_iconst (v := 1) (pc := 167) X dX9_leastFor_167 (by decide) ?_
                  refine x_isub (pc := 168) X dX9_leastFor_168 ?_
                  refine x_iload_n (pc := 169) X dX9_leastFor_169 (i := 3) rfl 4 rfl ?_
                  refine x_iand (pc := 170) X dX9_leastFor_170 ?_
                  refine x_istore (lv' := [(5, .int ((i5 - 1) &&& i3)), (4, .int s0), (0, .ref (cx.2.2 + a0)), (1, .int i1), (2, .int i2), (3, .int i3)]) (pc := 171) X dX9_leastFor_171 (by decide) rfl ?_
                  refine x_goto (tgt := 71) (pc := 173) X dX9_leastFor_173 (by decide) ?_
                  exact XW.sub [2, 3, 4, 5, 1, 0] rfl (ih71 _ _ h)
                · have h := ite_t c14 h
                  refine x_iconst (v := (-1)) (pc := 161) X dX9_leastFor_161 (by decide) ?_
                  refine x_goto (tgt := 171) (pc := 162) X dX9_leastFor_162 (by decide) ?_
                  refine x_istore (lv' := [(5, .int (-1)), (4, .int s0), (0, .ref (cx.2.2 + a0)), (1, .int i1), (2, .int i2), (3, .int i3)]) (pc := 171) X dX9_leastFor_171 (by decide) rfl ?_
                  refine x_goto (tgt := 71) (pc := 173) X dX9_leastFor_173 (by decide) ?_
                  exact XW.sub [2, 3, 4, 5, 1, 0] rfl (ih71 _ _ h)
              have hJ138 : ∀ (i4 : Int32) (i5 : Int32) (s0 : Int32), f_M_leastFor_138 N nx rec51 rec57 rec71 D P a0 i1 i2 i3 i4 i5 s0 = some z → XW p l e (rmk 2) s m args below meth c (MQ below (Qx cx (some (.int z.1)) z.2 P nx) args s 0 0 (AA cx)) cx 9 D P nx 0 0 138 [(0, .ref (cx.2.2 + a0)), (1, .int i1), (2, .int i2), (3, .int i3), (4, .int i4), (5, .int i5)] [.int s0] := by
                intro i4 i5 s0 h
                unfold f_M_leastFor_138 at h
                refine x_istore (lv' := [(8, .int s0), (0, .ref (cx.2.2 + a0)), (1, .int i1), (2, .int i2), (3, .int i3), (4, .int i4), (5, .int i5)]) (pc := 138) X dX9_leastFor_138 (by decide) rfl ?_
                refine x_iload (pc := 140) X dX9_leastFor_140 0 rfl ?_
                refine x_iload (pc := 142) X dX9_leastFor_142 5 rfl ?_
                refine x_icmp_ge (tgt := 152) (pc := 144) X dX9_leastFor_144 (by decide) (fun c15 => ?_) (fun c15 => ?_)
                · have h := ite_t c15 h
                  refine x_iload (pc := 152) X dX9_leastFor_152 5 rfl ?_
                  exact XW.sub [1, 2, 3, 4, 6] rfl (hJ154 _ _ h)
                · have h := ite_f c15 h
                  refine x_iload (pc := 147) X dX9_leastFor_147 0 rfl ?_
                  refine x_goto (tgt := 154) (pc := 149) X dX9_leastFor_149 (by decide) ?_
                  exact XW.sub [1, 2, 3, 4, 6] rfl (hJ154 _ _ h)
              refine x_iload (pc := 71) X dX9_leastFor_71 5 rfl ?_
              refine x_if_lt (tgt := 176) (pc := 73) X dX9_leastFor_73 (by decide) (fun c18 => ?_) (fun c18 => ?_)
              · have h := ite_t c18 h
                exact XW.sub [0, 1, 2, 3, 4] rfl (hJ176 _ _ _ h)
              · have h := ite_f c18 h
                refine x_iload_n (pc := 76) X dX9_leastFor_76 (i := 3) rfl 3 rfl ?_
                refine x_iload_n (pc := 77) X dX9_leastFor_77 (i := 1) rfl 1 rfl ?_
                refine x_iconst (v := (-1)) (pc := 78) X dX9_leastFor_78 (by decide) ?_
                refine x_ixor (pc := 79) X dX9_leastFor_79 ?_
                refine x_iand (pc := 80) X dX9_leastFor_80 ?_
                refine x_if_ne (tgt := 176) (pc := 81) X dX9_leastFor_81 (by decide) (fun c17 => ?_) (fun c17 => ?_)
                · have h := ite_f c17 h
                  exact XW.sub [0, 1, 2, 3, 4] rfl (hJ176 _ _ _ h)
                · have h := ite_t c17 h
                  refine x_aload_n (pc := 84) X dX9_leastFor_84 (i := 0) rfl 0 rfl ?_
                  obtain ⟨q7, e7, h⟩ := nns h
                  refine x_getr (ci := 9) (k := 17) (n := 26) (C := RX9) (T := TX9) (pc := 85) X dX9_leastFor_85 hk0 rfl (by decide) w_906 rfl e7 ?_
                  refine x_iload_n (pc := 88) X dX9_leastFor_88 (i := 2) rfl 2 rfl ?_
                  obtain ⟨g8, h⟩ := grd h
                  refine x_iald (pc := 89) X dX9_leastFor_89 g8 ?_
                  refine x_aload_n (pc := 90) X dX9_leastFor_90 (i := 0) rfl 0 rfl ?_
                  refine x_aload_n (pc := 91) X dX9_leastFor_91 (i := 0) rfl 0 rfl ?_
                  obtain ⟨q9, e9, h⟩ := nns h
                  refine x_getr (ci := 9) (k := 11) (n := 26) (C := RX9) (T := TX9) (pc := 92) X dX9_leastFor_92 hk0 rfl (by decide) w_900 rfl e9 ?_
                  refine x_iload (pc := 95) X dX9_leastFor_95 5 rfl ?_
                  obtain ⟨z10, e10, h⟩ := bnds h
                  refine x_callV (pc := 97) (As := [.ref (cx.2.2 + q9), .int i5]) (st := [.int (D q7 i2.toNatClampNeg)]) (st' := [.int z10, .int (D q7 i2.toNatClampNeg)]) X (c_M_sizeOf l cx nx N D P _ _ _ z10 e10) dX9_leastFor_97 w_1039 m_M_sizeOf rfl hk0 (ci := 9) rfl rfl ⟨by decide, by decide⟩ ⟨Nat.zero_le _, Nat.zero_le _⟩ rfl (Nat.le_of_ble_eq_true rfl) rfl ?_
                  refine x_iadd (pc := 100) X dX9_leastFor_100 ?_
                  refine x_istore (lv' := [(6, .int ((D q7 i2.toNatClampNeg) + z10)), (0, .ref (cx.2.2 + a0)), (1, .int i1), (2, .int i2), (3, .int i3), (4, .int i4), (5, .int i5)]) (pc := 101) X dX9_leastFor_101 (by decide) rfl ?_
                  refine x_aload_n (pc := 103) X dX9_leastFor_103 (i := 0) rfl 1 rfl ?_
                  obtain ⟨q11, e11, h⟩ := nns h
                  refine x_getr (ci := 9) (k := 18) (n := 26) (C := RX9) (T := TX9) (pc := 104) X dX9_leastFor_104 hk0 rfl (by decide) w_907 rfl e11 ?_
                  refine x_sipush (v := 256) (pc := 107) X dX9_leastFor_107 (by decide) ?_
                  refine x_iload_n (pc := 110) X dX9_leastFor_110 (i := 2) rfl 3 rfl ?_
                  refine x_iconst (v := 1) (pc := 111) X dX9_leastFor_111 (by decide) ?_
                  refine x_iadd (pc := 112) X dX9_leastFor_112 ?_
                  refine x_imul (pc := 113) X dX9_leastFor_113 ?_
                  refine x_iload_n (pc := 114) X dX9_leastFor_114 (i := 3) rfl 4 rfl ?_
                  refine x_iload (pc := 115) X dX9_leastFor_115 6 rfl ?_
                  refine x_iconst (v := (-1)) (pc := 117) X dX9_leastFor_117 (by decide) ?_
                  refine x_ixor (pc := 118) X dX9_leastFor_118 ?_
                  refine x_iand (pc := 119) X dX9_leastFor_119 ?_
                  refine x_iadd (pc := 120) X dX9_leastFor_120 ?_
                  obtain ⟨g12, h⟩ := grd h
                  refine x_iald (pc := 121) X dX9_leastFor_121 g12 ?_
                  obtain ⟨v13, w13, h⟩ := pass h
                  refine x_nm w13 ?_
                  refine x_istore (lv' := [(7, .int v13), (6, .int ((D q7 i2.toNatClampNeg) + z10)), (0, .ref (cx.2.2 + a0)), (1, .int i1), (2, .int i2), (3, .int i3), (4, .int i4), (5, .int i5)]) (pc := 122) X dX9_leastFor_122 (by decide) rfl ?_
                  refine x_iload (pc := 124) X dX9_leastFor_124 1 rfl ?_
                  refine x_iload (pc := 126) X dX9_leastFor_126 0 rfl ?_
                  refine x_icmp_le (tgt := 136) (pc := 128) X dX9_leastFor_128 (by decide) (fun c16 => ?_) (fun c16 => ?_)
                  · have h := ite_t c16 h
                    refine x_iload (pc := 136) X dX9_leastFor_136 0 rfl ?_
                    exact XW.sub [2, 3, 4, 5, 6, 7] rfl (hJ138 _ _ _ h)
                  · have h := ite_f c16 h
                    refine x_iload (pc := 131) X dX9_leastFor_131 1 rfl ?_
                    refine x_goto (tgt := 138) (pc := 133) X dX9_leastFor_133 (by decide) ?_
                    exact XW.sub [2, 3, 4, 5, 6, 7] rfl (hJ138 _ _ _ h)
          refine x_iload_n (pc := 57) X dX9_leastFor_57 (i := 3) rfl 3 rfl ?_
          refine x_sipush (v := 256) (pc := 58) X dX9_leastFor_58 (by decide) ?_
          refine x_icmp_ge (tgt := 196) (pc := 61) X dX9_leastFor_61 (by decide) (fun c19 => ?_) (fun c19 => ?_)
          · have h := ite_t c19 h
            refine x_iinc (v := i2 + (-1)) (lv' := [(2, .int (i2 + (-1))), (0, .ref (cx.2.2 + a0)), (1, .int i1), (3, .int i3)]) (pc := 196) X dX9_leastFor_196 2 rfl rfl (by decide) rfl ?_
            refine x_goto (tgt := 51) (pc := 199) X dX9_leastFor_199 (by decide) ?_
            exact XW.sub [1, 2, 0] rfl (ih51 _ _ h)
          · have h := ite_f c19 h
            refine x_ldc (v := 100000) (pc := 64) X dX9_leastFor_64 w_1155 ?_
            refine x_istore (lv' := [(4, .int 100000), (0, .ref (cx.2.2 + a0)), (1, .int i1), (2, .int i2), (3, .int i3)]) (pc := 66) X dX9_leastFor_66 (by decide) rfl ?_
            refine x_iload_n (pc := 68) X dX9_leastFor_68 (i := 3) rfl 4 rfl ?_
            refine x_istore (lv' := [(5, .int i3), (4, .int 100000), (0, .ref (cx.2.2 + a0)), (1, .int i1), (2, .int i2), (3, .int i3)]) (pc := 69) X dX9_leastFor_69 (by decide) rfl ?_
            exact XW.sub [2, 3, 4, 5, 1, 0] rfl (hL71 _ _ _ _ _ h)
      refine x_iload_n (pc := 51) X dX9_leastFor_51 (i := 2) rfl 2 rfl ?_
      refine x_if_lt (tgt := 202) (pc := 52) X dX9_leastFor_52 (by decide) (fun c20 => ?_) (fun c20 => ?_)
      · have h := ite_t c20 h
        refine x_aload_n (pc := 202) X dX9_leastFor_202 (i := 0) rfl 0 rfl ?_
        obtain ⟨q3, e3, h⟩ := nns h
        refine x_getr (ci := 9) (k := 18) (n := 26) (C := RX9) (T := TX9) (pc := 203) X dX9_leastFor_203 hk0 rfl (by decide) w_907 rfl e3 ?_
        refine x_iload_n (pc := 206) X dX9_leastFor_206 (i := 1) rfl 1 rfl ?_
        obtain ⟨g4, h⟩ := grd h
        refine x_iald (pc := 207) X dX9_leastFor_207 g4 ?_
        obtain rfl := Option.some.inj h
        exact x_iret (pc := 208) X dX9_leastFor_208
      · have h := ite_f c20 h
        refine x_iconst (v := 0) (pc := 55) X dX9_leastFor_55 (by decide) ?_
        refine x_istore_n (lv' := [(3, .int 0), (0, .ref (cx.2.2 + a0)), (1, .int i1), (2, .int i2)]) (pc := 56) X dX9_leastFor_56 (i := 3) rfl (by decide) rfl ?_
        exact XW.sub [1, 2, 3, 0] rfl (hL57 _ _ _ _ h)
  have hL2 : ∀ (n : Nat) (D : Dt) (i2 : Int32), wk2 n (f_M_leastFor_2 N nx P a0 i1) D i2 = some z → XW p l e (rmk 2) s m args below meth c (MQ below (Qx cx (some (.int z.1)) z.2 P nx) args s 0 0 (AA cx)) cx 9 D P nx 0 0 2 [(0, .ref (cx.2.2 + a0)), (1, .int i1), (2, .int i2)] [] := by
    intro n
    induction n with
    | zero => intro D i2 h; exact (nonz h).elim
    | succ n ih2 =>
      intro D i2 h
      have h : f_M_leastFor_2 N nx P a0 i1 (wk2 n (f_M_leastFor_2 N nx P a0 i1)) D i2 = some z := h
      generalize wk2 n (f_M_leastFor_2 N nx P a0 i1) = rec2 at ih2 h
      unfold f_M_leastFor_2 at h
      refine x_iload_n (pc := 2) X dX9_leastFor_2 (i := 2) rfl 2 rfl ?_
      refine x_sipush (v := 256) (pc := 3) X dX9_leastFor_3 (by decide) ?_
      refine x_icmp_ge (tgt := 42) (pc := 6) X dX9_leastFor_6 (by decide) (fun c27 => ?_) (fun c27 => ?_)
      · have h := ite_t c27 h
        refine x_aload_n (pc := 42) X dX9_leastFor_42 (i := 0) rfl 0 rfl ?_
        obtain ⟨q1, e1, h⟩ := nns h
        refine x_getr (ci := 9) (k := 2) (n := 26) (C := RX9) (T := TX9) (pc := 43) X dX9_leastFor_43 hk0 rfl (by decide) w_891 rfl e1 ?_
        refine x_iconst (v := 0) (pc := 46) X dX9_leastFor_46 (by decide) ?_
        obtain ⟨g2, h⟩ := grd h
        refine x_iald (pc := 47) X dX9_leastFor_47 g2 ?_
        refine x_iconst (v := 1) (pc := 48) X dX9_leastFor_48 (by decide) ?_
        refine x_isub (pc := 49) X dX9_leastFor_49 ?_
        refine x_istore_n (lv' := [(2, .int ((D q1 (0 : Int32).toNatClampNeg) - 1)), (0, .ref (cx.2.2 + a0)), (1, .int i1)]) (pc := 50) X dX9_leastFor_50 (i := 2) rfl (by decide) rfl ?_
        exact XW.sub [1, 2, 0] rfl (hL51 _ _ _ h)
      · have h := ite_f c27 h
        refine x_aload_n (pc := 9) X dX9_leastFor_9 (i := 0) rfl 0 rfl ?_
        obtain ⟨q21, e21, h⟩ := nns h
        refine x_getr (ci := 9) (k := 18) (n := 26) (C := RX9) (T := TX9) (pc := 10) X dX9_leastFor_10 hk0 rfl (by decide) w_907 rfl e21 ?_
        refine x_sipush (v := 256) (pc := 13) X dX9_leastFor_13 (by decide) ?_
        refine x_aload_n (pc := 16) X dX9_leastFor_16 (i := 0) rfl 0 rfl ?_
        obtain ⟨q22, e22, h⟩ := nns h
        refine x_getr (ci := 9) (k := 2) (n := 26) (C := RX9) (T := TX9) (pc := 17) X dX9_leastFor_17 hk0 rfl (by decide) w_891 rfl e22 ?_
        refine x_iconst (v := 0) (pc := 20) X dX9_leastFor_20 (by decide) ?_
        obtain ⟨g23, h⟩ := grd h
        refine x_iald (pc := 21) X dX9_leastFor_21 g23 ?_
        refine x_imul (pc := 22) X dX9_leastFor_22 ?_
        refine x_iload_n (pc := 23) X dX9_leastFor_23 (i := 2) rfl 2 rfl ?_
        refine x_iadd (pc := 24) X dX9_leastFor_24 ?_
        refine x_iload_n (pc := 25) X dX9_leastFor_25 (i := 2) rfl 2 rfl ?_
        refine x_if_ne (tgt := 33) (pc := 26) X dX9_leastFor_26 (by decide) (fun c26 => ?_) (fun c26 => ?_)
        · have h := ite_f c26 h
          refine x_ldc (v := 100000) (pc := 33) X dX9_leastFor_33 w_1155 ?_
          obtain ⟨g24, h⟩ := grd h
          obtain ⟨D24, w24, h⟩ := pass h
          refine x_iast (D' := D24) (pc := 35) X dX9_leastFor_35 g24 w24 ?_
          refine x_iinc (v := i2 + 1) (lv' := [(2, .int (i2 + 1)), (0, .ref (cx.2.2 + a0)), (1, .int i1)]) (pc := 36) X dX9_leastFor_36 2 rfl rfl (by decide) rfl ?_
          refine x_goto (tgt := 2) (pc := 39) X dX9_leastFor_39 (by decide) ?_
          exact XW.sub [1, 2, 0] rfl (ih2 _ _ h)
        · have h := ite_t c26 h
          refine x_iconst (v := 0) (pc := 29) X dX9_leastFor_29 (by decide) ?_
          refine x_goto (tgt := 35) (pc := 30) X dX9_leastFor_30 (by decide) ?_
          obtain ⟨g25, h⟩ := grd h
          obtain ⟨D25, w25, h⟩ := pass h
          refine x_iast (D' := D25) (pc := 35) X dX9_leastFor_35 g25 w25 ?_
          refine x_iinc (v := i2 + 1) (lv' := [(2, .int (i2 + 1)), (0, .ref (cx.2.2 + a0)), (1, .int i1)]) (pc := 36) X dX9_leastFor_36 2 rfl rfl (by decide) rfl ?_
          refine x_goto (tgt := 2) (pc := 39) X dX9_leastFor_39 (by decide) ?_
          exact XW.sub [1, 2, 0] rfl (ih2 _ _ h)
  refine x_iconst (v := 0) (pc := 0) X dX9_leastFor_0 (by decide) ?_
  refine x_istore_n (lv' := [(2, .int 0), (0, .ref (cx.2.2 + a0)), (1, .int i1)]) (pc := 1) X dX9_leastFor_1 (i := 2) rfl (by decide) rfl ?_
  exact XW.sub [1, 2, 0] rfl (hL2 _ _ _ h)
theorem dX9_share_0 : decode cX9_share 0 = .ok (.iload_n 1, 1) := by decide +kernel
theorem dX9_share_1 : decode cX9_share 1 = .ok (.iconst (-1), 1) := by decide +kernel
theorem dX9_share_2 : decode cX9_share 2 = .ok (.if_icmp .eq 13, 3) := by decide +kernel
theorem dX9_share_5 : decode cX9_share 5 = .ok (.aload_n 0, 1) := by decide +kernel
theorem dX9_share_6 : decode cX9_share 6 = .ok (.iload_n 1, 1) := by decide +kernel
theorem dX9_share_7 : decode cX9_share 7 = .ok (.invokevirtual 178, 3) := by decide +kernel
theorem dX9_share_10 : decode cX9_share 10 = .ok (.ifCond .ne 5, 3) := by decide +kernel
theorem dX9_share_13 : decode cX9_share 13 = .ok (.iconst (-1), 1) := by decide +kernel
theorem dX9_share_14 : decode cX9_share 14 = .ok (.ireturn, 1) := by decide +kernel
theorem dX9_share_15 : decode cX9_share 15 = .ok (.aload_n 0, 1) := by decide +kernel
theorem dX9_share_16 : decode cX9_share 16 = .ok (.aload_n 0, 1) := by decide +kernel
theorem dX9_share_17 : decode cX9_share 17 = .ok (.getfield 35, 3) := by decide +kernel
theorem dX9_share_20 : decode cX9_share 20 = .ok (.invokevirtual 201, 3) := by decide +kernel
theorem dX9_share_23 : decode cX9_share 23 = .ok (.istore_n 2, 1) := by decide +kernel
theorem dX9_share_24 : decode cX9_share 24 = .ok (.iconst 0, 1) := by decide +kernel
theorem dX9_share_25 : decode cX9_share 25 = .ok (.istore_n 3, 1) := by decide +kernel
theorem dX9_share_26 : decode cX9_share 26 = .ok (.iload_n 3, 1) := by decide +kernel
theorem dX9_share_27 : decode cX9_share 27 = .ok (.iconst 5, 1) := by decide +kernel
theorem dX9_share_28 : decode cX9_share 28 = .ok (.if_icmp .ge 16, 3) := by decide +kernel
theorem dX9_share_31 : decode cX9_share 31 = .ok (.aload_n 0, 1) := by decide +kernel
theorem dX9_share_32 : decode cX9_share 32 = .ok (.getfield 47, 3) := by decide +kernel
theorem dX9_share_35 : decode cX9_share 35 = .ok (.iload_n 3, 1) := by decide +kernel
theorem dX9_share_36 : decode cX9_share 36 = .ok (.iconst 0, 1) := by decide +kernel
theorem dX9_share_37 : decode cX9_share 37 = .ok (.iastore, 1) := by decide +kernel
theorem dX9_share_38 : decode cX9_share 38 = .ok (.iinc 3 1, 3) := by decide +kernel
theorem dX9_share_41 : decode cX9_share 41 = .ok (.goto (-15), 3) := by decide +kernel
theorem dX9_share_44 : decode cX9_share 44 = .ok (.aload_n 0, 1) := by decide +kernel
theorem dX9_share_45 : decode cX9_share 45 = .ok (.iload_n 2, 1) := by decide +kernel
theorem dX9_share_46 : decode cX9_share 46 = .ok (.invokevirtual 211, 3) := by decide +kernel
theorem dX9_share_49 : decode cX9_share 49 = .ok (.istore_n 3, 1) := by decide +kernel
theorem dX9_share_50 : decode cX9_share 50 = .ok (.iload_n 1, 1) := by decide +kernel
theorem dX9_share_51 : decode cX9_share 51 = .ok (.iconst (-1), 1) := by decide +kernel
theorem dX9_share_52 : decode cX9_share 52 = .ok (.if_icmp .eq 14, 3) := by decide +kernel
theorem dX9_share_55 : decode cX9_share 55 = .ok (.aload_n 0, 1) := by decide +kernel
theorem dX9_share_56 : decode cX9_share 56 = .ok (.getfield 35, 3) := by decide +kernel
theorem dX9_share_59 : decode cX9_share 59 = .ok (.iload_n 1, 1) := by decide +kernel
theorem dX9_share_60 : decode cX9_share 60 = .ok (.invokestatic 145, 3) := by decide +kernel
theorem dX9_share_63 : decode cX9_share 63 = .ok (.ifCond .ne 15, 3) := by decide +kernel
theorem dX9_share_66 : decode cX9_share 66 = .ok (.iload_n 1, 1) := by decide +kernel
theorem dX9_share_67 : decode cX9_share 67 = .ok (.iconst (-1), 1) := by decide +kernel
theorem dX9_share_68 : decode cX9_share 68 = .ok (.if_icmp .ne 7, 3) := by decide +kernel
theorem dX9_share_71 : decode cX9_share 71 = .ok (.iload_n 3, 1) := by decide +kernel
theorem dX9_share_72 : decode cX9_share 72 = .ok (.goto 5, 3) := by decide +kernel
theorem dX9_share_75 : decode cX9_share 75 = .ok (.bipush (-4), 2) := by decide +kernel
theorem dX9_share_77 : decode cX9_share 77 = .ok (.ireturn, 1) := by decide +kernel
theorem dX9_share_78 : decode cX9_share 78 = .ok (.bipush (-4), 2) := by decide +kernel
theorem dX9_share_80 : decode cX9_share 80 = .ok (.istore 4, 2) := by decide +kernel
theorem dX9_share_82 : decode cX9_share 82 = .ok (.iconst 0, 1) := by decide +kernel
theorem dX9_share_83 : decode cX9_share 83 = .ok (.istore 5, 2) := by decide +kernel
theorem dX9_share_85 : decode cX9_share 85 = .ok (.iload 5, 2) := by decide +kernel
theorem dX9_share_87 : decode cX9_share 87 = .ok (.iload_n 1, 1) := by decide +kernel
theorem dX9_share_88 : decode cX9_share 88 = .ok (.if_icmp .gt 130, 3) := by decide +kernel
theorem dX9_share_91 : decode cX9_share 91 = .ok (.aload_n 0, 1) := by decide +kernel
theorem dX9_share_92 : decode cX9_share 92 = .ok (.getfield 35, 3) := by decide +kernel
theorem dX9_share_95 : decode cX9_share 95 = .ok (.iload 5, 2) := by decide +kernel
theorem dX9_share_97 : decode cX9_share 97 = .ok (.invokestatic 145, 3) := by decide +kernel
theorem dX9_share_100 : decode cX9_share 100 = .ok (.ifCond .eq 112, 3) := by decide +kernel
theorem dX9_share_103 : decode cX9_share 103 = .ok (.iload_n 2, 1) := by decide +kernel
theorem dX9_share_104 : decode cX9_share 104 = .ok (.iconst 1, 1) := by decide +kernel
theorem dX9_share_105 : decode cX9_share 105 = .ok (.iload 5, 2) := by decide +kernel
theorem dX9_share_107 : decode cX9_share 107 = .ok (.ishl, 1) := by decide +kernel
theorem dX9_share_108 : decode cX9_share 108 = .ok (.iconst (-1), 1) := by decide +kernel
theorem dX9_share_109 : decode cX9_share 109 = .ok (.ixor, 1) := by decide +kernel
theorem dX9_share_110 : decode cX9_share 110 = .ok (.iand, 1) := by decide +kernel
theorem dX9_share_111 : decode cX9_share 111 = .ok (.istore_n 2, 1) := by decide +kernel
theorem dX9_share_112 : decode cX9_share 112 = .ok (.bipush (-4), 2) := by decide +kernel
theorem dX9_share_114 : decode cX9_share 114 = .ok (.istore 4, 2) := by decide +kernel
theorem dX9_share_116 : decode cX9_share 116 = .ok (.iconst 0, 1) := by decide +kernel
theorem dX9_share_117 : decode cX9_share 117 = .ok (.istore 6, 2) := by decide +kernel
theorem dX9_share_119 : decode cX9_share 119 = .ok (.iload 6, 2) := by decide +kernel
theorem dX9_share_121 : decode cX9_share 121 = .ok (.aload_n 0, 1) := by decide +kernel
theorem dX9_share_122 : decode cX9_share 122 = .ok (.getfield 13, 3) := by decide +kernel
theorem dX9_share_125 : decode cX9_share 125 = .ok (.iconst 0, 1) := by decide +kernel
theorem dX9_share_126 : decode cX9_share 126 = .ok (.iaload, 1) := by decide +kernel
theorem dX9_share_127 : decode cX9_share 127 = .ok (.if_icmp .ge 85, 3) := by decide +kernel
theorem dX9_share_130 : decode cX9_share 130 = .ok (.iload 4, 2) := by decide +kernel
theorem dX9_share_132 : decode cX9_share 132 = .ok (.bipush (-4), 2) := by decide +kernel
theorem dX9_share_134 : decode cX9_share 134 = .ok (.if_icmp .ne 78, 3) := by decide +kernel
theorem dX9_share_137 : decode cX9_share 137 = .ok (.aload_n 0, 1) := by decide +kernel
theorem dX9_share_138 : decode cX9_share 138 = .ok (.getfield 47, 3) := by decide +kernel
theorem dX9_share_141 : decode cX9_share 141 = .ok (.iload 6, 2) := by decide +kernel
theorem dX9_share_143 : decode cX9_share 143 = .ok (.dup2, 1) := by decide +kernel
theorem dX9_share_144 : decode cX9_share 144 = .ok (.iaload, 1) := by decide +kernel
theorem dX9_share_145 : decode cX9_share 145 = .ok (.aload_n 0, 1) := by decide +kernel
theorem dX9_share_146 : decode cX9_share 146 = .ok (.getfield 35, 3) := by decide +kernel
theorem dX9_share_149 : decode cX9_share 149 = .ok (.bipush 10, 2) := by decide +kernel
theorem dX9_share_151 : decode cX9_share 151 = .ok (.iload 5, 2) := by decide +kernel
theorem dX9_share_153 : decode cX9_share 153 = .ok (.iadd, 1) := by decide +kernel
theorem dX9_share_154 : decode cX9_share 154 = .ok (.iaload, 1) := by decide +kernel
theorem dX9_share_155 : decode cX9_share 155 = .ok (.iadd, 1) := by decide +kernel
theorem dX9_share_156 : decode cX9_share 156 = .ok (.iastore, 1) := by decide +kernel
theorem dX9_share_157 : decode cX9_share 157 = .ok (.aload_n 0, 1) := by decide +kernel
theorem dX9_share_158 : decode cX9_share 158 = .ok (.iload_n 2, 1) := by decide +kernel
theorem dX9_share_159 : decode cX9_share 159 = .ok (.invokevirtual 211, 3) := by decide +kernel
theorem dX9_share_162 : decode cX9_share 162 = .ok (.iload_n 3, 1) := by decide +kernel
theorem dX9_share_163 : decode cX9_share 163 = .ok (.if_icmp .gt 8, 3) := by decide +kernel
theorem dX9_share_166 : decode cX9_share 166 = .ok (.iload 6, 2) := by decide +kernel
theorem dX9_share_168 : decode cX9_share 168 = .ok (.goto 5, 3) := by decide +kernel
theorem dX9_share_171 : decode cX9_share 171 = .ok (.bipush (-4), 2) := by decide +kernel
theorem dX9_share_173 : decode cX9_share 173 = .ok (.istore 4, 2) := by decide +kernel
theorem dX9_share_175 : decode cX9_share 175 = .ok (.aload_n 0, 1) := by decide +kernel
theorem dX9_share_176 : decode cX9_share 176 = .ok (.getfield 47, 3) := by decide +kernel
theorem dX9_share_179 : decode cX9_share 179 = .ok (.iload 6, 2) := by decide +kernel
theorem dX9_share_181 : decode cX9_share 181 = .ok (.dup2, 1) := by decide +kernel
theorem dX9_share_182 : decode cX9_share 182 = .ok (.iaload, 1) := by decide +kernel
theorem dX9_share_183 : decode cX9_share 183 = .ok (.iload 4, 2) := by decide +kernel
theorem dX9_share_185 : decode cX9_share 185 = .ok (.bipush (-4), 2) := by decide +kernel
theorem dX9_share_187 : decode cX9_share 187 = .ok (.if_icmp .ne 16, 3) := by decide +kernel
theorem dX9_share_190 : decode cX9_share 190 = .ok (.aload_n 0, 1) := by decide +kernel
theorem dX9_share_191 : decode cX9_share 191 = .ok (.getfield 35, 3) := by decide +kernel
theorem dX9_share_194 : decode cX9_share 194 = .ok (.bipush 10, 2) := by decide +kernel
theorem dX9_share_196 : decode cX9_share 196 = .ok (.iload 5, 2) := by decide +kernel
theorem dX9_share_198 : decode cX9_share 198 = .ok (.iadd, 1) := by decide +kernel
theorem dX9_share_199 : decode cX9_share 199 = .ok (.iaload, 1) := by decide +kernel
theorem dX9_share_200 : decode cX9_share 200 = .ok (.goto 4, 3) := by decide +kernel
theorem dX9_share_203 : decode cX9_share 203 = .ok (.iconst 0, 1) := by decide +kernel
theorem dX9_share_204 : decode cX9_share 204 = .ok (.isub, 1) := by decide +kernel
theorem dX9_share_205 : decode cX9_share 205 = .ok (.iastore, 1) := by decide +kernel
theorem dX9_share_206 : decode cX9_share 206 = .ok (.iinc 6 1, 3) := by decide +kernel
theorem dX9_share_209 : decode cX9_share 209 = .ok (.goto (-90), 3) := by decide +kernel
theorem dX9_share_212 : decode cX9_share 212 = .ok (.iinc 5 1, 3) := by decide +kernel
theorem dX9_share_215 : decode cX9_share 215 = .ok (.goto (-130), 3) := by decide +kernel
theorem dX9_share_218 : decode cX9_share 218 = .ok (.iload 4, 2) := by decide +kernel
theorem dX9_share_220 : decode cX9_share 220 = .ok (.ireturn, 1) := by decide +kernel
def f_M_share_173 (N nx : Nat) (rec85 : Dt → Int32 → Int32 → Int32 → Option (Int32 × Dt)) (rec119 : Dt → Int32 → Int32 → Option (Int32 × Dt)) (D : Dt) (P : Ft) (a0 : Nat) (i1 : Int32) (i2 : Int32) (i3 : Int32) (i5 : Int32) (i6 : Int32) (s0 : Int32) : Option (Int32 × Dt) :=
  nn (P a0 17) fun q17 =>
  if ab nx q17 3 i6 = true then
  if s0 = (-4) then
    nn (P a0 11) fun q20 =>
    if ab nx q20 3 (10 + i5) = true then
    if ab nx q17 3 i6 = true then
    pas (upd2 D q17 i6.toNatClampNeg ((D q17 i6.toNatClampNeg) - (D q20 (10 + i5).toNatClampNeg))) fun D22 =>
    rec119 D22 s0 (i6 + 1)
    else none
    else none
  else
    if ab nx q17 3 i6 = true then
    pas (upd2 D q17 i6.toNatClampNeg ((D q17 i6.toNatClampNeg) - 0)) fun D19 =>
    rec119 D19 s0 (i6 + 1)
    else none
  else none
def f_M_share_119 (N nx : Nat) (rec85 : Dt → Int32 → Int32 → Int32 → Option (Int32 × Dt)) (P : Ft) (a0 : Nat) (i1 : Int32) (i2 : Int32) (i3 : Int32) (i5 : Int32) (rec119 : Dt → Int32 → Int32 → Option (Int32 × Dt)) (D : Dt) (i4 : Int32) (i6 : Int32) : Option (Int32 × Dt) :=
  nn (P a0 2) fun q9 =>
  if ab nx q9 3 0 = true then
  if D q9 (0 : Int32).toNatClampNeg ≤ i6 then
    rec85 D i2 i4 (i5 + 1)
  else
    if i4 = (-4) then
      nn (P a0 17) fun q11 =>
      if ab nx q11 3 i6 = true then
      nn (P a0 11) fun q13 =>
      if ab nx q13 3 (10 + i5) = true then
      if ab nx q11 3 i6 = true then
      pas (upd2 D q11 i6.toNatClampNeg ((D q11 i6.toNatClampNeg) + (D q13 (10 + i5).toNatClampNeg))) fun D15 =>
      (f_M_leastFor N nx D15 P a0 i2).bind fun z16 =>
      if i3 < z16.1 then
        f_M_share_173 N nx rec85 rec119 z16.2 P a0 i1 i2 i3 i5 i6 (-4)
      else
        f_M_share_173 N nx rec85 rec119 z16.2 P a0 i1 i2 i3 i5 i6 i6
      else none
      else none
      else none
    else
      rec85 D i2 i4 (i5 + 1)
  else none
def f_M_share_85 (N nx : Nat) (P : Ft) (a0 : Nat) (i1 : Int32) (i3 : Int32) (rec85 : Dt → Int32 → Int32 → Int32 → Option (Int32 × Dt)) (D : Dt) (i2 : Int32) (i4 : Int32) (i5 : Int32) : Option (Int32 × Dt) :=
  if i1 < i5 then
    some (i4, D)
  else
    nn (P a0 11) fun q7 =>
    (f_M_isBorne N nx D P q7 i5).bind fun z8 =>
    if z8 = 0 then
      rec85 D i2 i4 (i5 + 1)
    else
      wk3 N (f_M_share_119 N nx rec85 P a0 i1 (i2 &&& ((1 <<< (i5 &&& 31)) ^^^ (-1))) i3 i5) D (-4) 0
def f_M_share_66 (N nx : Nat) (D : Dt) (P : Ft) (i1 : Int32) (i3 : Int32) : Option (Int32 × Dt) :=
  if i1 = (-1) then
    some (i3, D)
  else
    some ((-4), D)
def f_M_share_26 (N nx : Nat) (P : Ft) (a0 : Nat) (i1 : Int32) (i2 : Int32) (rec26 : Dt → Int32 → Option (Int32 × Dt)) (D : Dt) (i3 : Int32) : Option (Int32 × Dt) :=
  if 5 ≤ i3 then
    (f_M_leastFor N nx D P a0 i2).bind fun z3 =>
    if i1 = (-1) then
      f_M_share_66 N nx z3.2 P i1 z3.1
    else
      nn (P a0 11) fun q5 =>
      (f_M_isBorne N nx z3.2 P q5 i1).bind fun z6 =>
      if z6 = 0 then
        f_M_share_66 N nx z3.2 P i1 z3.1
      else
        wk4 N (f_M_share_85 N nx P a0 i1 z3.1) z3.2 i2 (-4) 0
  else
    nn (P a0 17) fun q31 =>
    if ab nx q31 3 i3 = true then
    pas (upd2 D q31 i3.toNatClampNeg 0) fun D32 =>
    rec26 D32 (i3 + 1)
    else none
def f_M_share_15 (N nx : Nat) (D : Dt) (P : Ft) (a0 : Nat) (i1 : Int32) : Option (Int32 × Dt) :=
  nn (P a0 11) fun q1 =>
  (f_M_borne N nx D P a0 q1).bind fun z2 =>
  wk2 N (f_M_share_26 N nx P a0 i1 z2) D 0
def f_M_share (N nx : Nat) (D : Dt) (P : Ft) (a0 : Nat) (i1 : Int32) : Option (Int32 × Dt) :=
  if kd nx a0 = 9 then
  if i1 = (-1) then
    f_M_share_15 N nx D P a0 i1
  else
    (f_M_isPin N nx D P a0 i1).bind fun z34 =>
    if z34 = 0 then
      some ((-1), D)
    else
      f_M_share_15 N nx D P a0 i1
  else none
theorem m_M_share : MV yX9_share cX9_share 7 (some .int) 1 := ⟨mT 1150 (by decide +kernel) rfl, mT 1148 (by decide +kernel) rfl, mT 1149 (by decide +kernel) rfl, mT 68 (by decide +kernel) rfl, by decide +kernel, by decide +kernel, by decide +kernel⟩
set_option maxHeartbeats 4000000 in
set_option maxRecDepth 100000 in
theorem c_M_share (l : Launch) (cx : Cx) (nx N : Nat) (D : Dt) (P : Ft) (a0 : Nat) (i1 : Int32) (z : Int32 × Dt) (h : f_M_share N nx D P a0 i1 = some z) : Ct l cx yX9_share cX9_share 7 (some .int) 3 [.ref (cx.2.2 + a0), .int i1] D P nx (some (.int z.1)) z.2 P := by
  refine x_met0 (by decide) (Nat.le_of_ble_eq_true rfl) ?_
  intro p e s m args below meth c X
  have X : XC p s m args meth c cx cX9_share 7 (some .int) "HeartPinsModel" "share" := X
  refine XW.sub (lv' := [(0, .ref (cx.2.2 + a0)), (1, .int i1)]) [0, 1] rfl ?_
  unfold f_M_share at h
  obtain ⟨hk0, h⟩ := grd h
  have hL85 : ∀ (i3 : Int32) (n : Nat) (D : Dt) (i2 : Int32) (i4 : Int32) (i5 : Int32), wk4 n (f_M_share_85 N nx P a0 i1 i3) D i2 i4 i5 = some z → XW p l e (rmk 3) s m args below meth c (MQ below (Qx cx (some (.int z.1)) z.2 P nx) args s 0 0 (AA cx)) cx 7 D P nx 0 0 85 [(0, .ref (cx.2.2 + a0)), (1, .int i1), (2, .int i2), (3, .int i3), (4, .int i4), (5, .int i5)] [] := by
    intro i3 n
    induction n with
    | zero => intro D i2 i4 i5 h; exact (nonz h).elim
    | succ n ih85 =>
      intro D i2 i4 i5 h
      have h : f_M_share_85 N nx P a0 i1 i3 (wk4 n (f_M_share_85 N nx P a0 i1 i3)) D i2 i4 i5 = some z := h
      generalize wk4 n (f_M_share_85 N nx P a0 i1 i3) = rec85 at ih85 h
      unfold f_M_share_85 at h
      have hL119 : ∀ (i2 : Int32) (i5 : Int32) (n : Nat) (D : Dt) (i4 : Int32) (i6 : Int32), wk3 n (f_M_share_119 N nx rec85 P a0 i1 i2 i3 i5) D i4 i6 = some z → XW p l e (rmk 3) s m args below meth c (MQ below (Qx cx (some (.int z.1)) z.2 P nx) args s 0 0 (AA cx)) cx 7 D P nx 0 0 119 [(0, .ref (cx.2.2 + a0)), (1, .int i1), (2, .int i2), (3, .int i3), (4, .int i4), (5, .int i5), (6, .int i6)] [] := by
        intro i2 i5 n
        induction n with
        | zero => intro D i4 i6 h; exact (nonz h).elim
        | succ n ih119 =>
          intro D i4 i6 h
          have h : f_M_share_119 N nx rec85 P a0 i1 i2 i3 i5 (wk3 n (f_M_share_119 N nx rec85 P a0 i1 i2 i3 i5)) D i4 i6 = some z := h
          generalize wk3 n (f_M_share_119 N nx rec85 P a0 i1 i2 i3 i5) = rec119 at ih119 h
          unfold f_M_share_119 at h
          have hJ173 : ∀ (D : Dt) (i6 : Int32) (s0 : Int32), f_M_share_173 N nx rec85 rec119 D P a0 i1 i2 i3 i5 i6 s0 = some z → XW p l e (rmk 3) s m args below meth c (MQ below (Qx cx (some (.int z.1)) z.2 P nx) args s 0 0 (AA cx)) cx 7 D P nx 0 0 173 [(0, .ref (cx.2.2 + a0)), (1, .int i1), (2, .int i2), (3, .int i3), (5, .int i5), (6, .int i6)] [.int s0] := by
            intro D i6 s0 h
            unfold f_M_share_173 at h
            refine x_istore (lv' := [(4, .int s0), (0, .ref (cx.2.2 + a0)), (1, .int i1), (2, .int i2), (3, .int i3), (5, .int i5), (6, .int i6)]) (pc := 173) X dX9_share_173 (by decide) rfl ?_
            refine x_aload_n (pc := 175) X dX9_share_175 (i := 0) rfl 1 rfl ?_
            obtain ⟨q17, e17, h⟩ := nns h
            refine x_getr (ci := 9) (k := 17) (n := 26) (C := RX9) (T := TX9) (pc := 176) X dX9_share_176 hk0 rfl (by decide) w_906 rfl e17 ?_
            refine x_iload (pc := 179) X dX9_share_179 6 rfl ?_
            refine x_dup2 (pc := 181) X dX9_share_181 rfl rfl ?_
            obtain ⟨g18, h⟩ := grd h
            refine x_iald (pc := 182) X dX9_share_182 g18 ?_
            refine x_iload (pc := 183) X dX9_share_183 0 rfl ?_
            refine x_bipush (v := (-4)) (pc := 185) X dX9_share_185 (by decide) ?_
            refine x_icmp_ne (tgt := 203) (pc := 187) X dX9_share_187 (by decide) (fun c23 => ?_) (fun c23 => ?_)
            · have h := ite_f c23 h
              refine x_iconst (v := 0) (pc := 203) X dX9_share_203 (by decide) ?_
              refine x_isub (pc := 204) X dX9_share_204 ?_
              obtain ⟨g19, h⟩ := grd h
              obtain ⟨D19, w19, h⟩ := pass h
              refine x_iast (D' := D19) (pc := 205) X dX9_share_205 g19 w19 ?_
              refine x_iinc (v := i6 + 1) (lv' := [(6, .int (i6 + 1)), (4, .int s0), (0, .ref (cx.2.2 + a0)), (1, .int i1), (2, .int i2), (3, .int i3), (5, .int i5)]) (pc := 206) X dX9_share_206 6 rfl rfl (by decide) rfl ?_
              refine x_goto (tgt := 119) (pc := 209) X dX9_share_209 (by decide) ?_
              exact XW.sub [2, 3, 4, 5, 1, 6, 0] rfl (ih119 _ _ _ h)
            · have h := ite_t c23 h
              refine x_aload_n (pc := 190) X dX9_share_190 (i := 0) rfl 1 rfl ?_
              obtain ⟨q20, e20, h⟩ := nns h
              refine x_getr (ci := 9) (k := 11) (n := 26) (C := RX9) (T := TX9) (pc := 191) X dX9_share_191 hk0 rfl (by decide) w_900 rfl e20 ?_
              refine x_bipush (v := 10) (pc := 194) X dX9_share_194 (by decide) ?_
              refine x_iload (pc := 196) X dX9_share_196 5 rfl ?_
              refine x_iadd (pc := 198) X dX9_share_198 ?_
              obtain ⟨g21, h⟩ := grd h
              refine x_iald (pc := 199) X dX9_share_199 g21 ?_
              refine x_goto (tgt := 204) (pc := 200) X dX9_share_200 (by decide) ?_
              refine x_isub (pc := 204) X dX9_share_204 ?_
              obtain ⟨g22, h⟩ := grd h
              obtain ⟨D22, w22, h⟩ := pass h
              refine x_iast (D' := D22) (pc := 205) X dX9_share_205 g22 w22 ?_
              refine x_iinc (v := i6 + 1) (lv' := [(6, .int (i6 + 1)), (4, .int s0), (0, .ref (cx.2.2 + a0)), (1, .int i1), (2, .int i2), (3, .int i3), (5, .int i5)]) (pc := 206) X dX9_share_206 6 rfl rfl (by decide) rfl ?_
              refine x_goto (tgt := 119) (pc := 209) X dX9_share_209 (by decide) ?_
              exact XW.sub [2, 3, 4, 5, 1, 6, 0] rfl (ih119 _ _ _ h)
          refine x_iload (pc := 119) X dX9_share_119 6 rfl ?_
          refine x_aload_n (pc := 121) X dX9_share_121 (i := 0) rfl 0 rfl ?_
          obtain ⟨q9, e9, h⟩ := nns h
          refine x_getr (ci := 9) (k := 2) (n := 26) (C := RX9) (T := TX9) (pc := 122) X dX9_share_122 hk0 rfl (by decide) w_891 rfl e9 ?_
          refine x_iconst (v := 0) (pc := 125) X dX9_share_125 (by decide) ?_
          obtain ⟨g10, h⟩ := grd h
          refine x_iald (pc := 126) X dX9_share_126 g10 ?_
          refine x_icmp_ge (tgt := 212) (pc := 127) X dX9_share_127 (by decide) (fun c26 => ?_) (fun c26 => ?_)
          · have h := ite_t c26 h
            refine x_iinc (v := i5 + 1) (lv' := [(5, .int (i5 + 1)), (0, .ref (cx.2.2 + a0)), (1, .int i1), (2, .int i2), (3, .int i3), (4, .int i4), (6, .int i6)]) (pc := 212) X dX9_share_212 5 rfl rfl (by decide) rfl ?_
            refine x_goto (tgt := 85) (pc := 215) X dX9_share_215 (by decide) ?_
            exact XW.sub [1, 2, 3, 4, 5, 0] rfl (ih85 _ _ _ _ h)
          · have h := ite_f c26 h
            refine x_iload (pc := 130) X dX9_share_130 4 rfl ?_
            refine x_bipush (v := (-4)) (pc := 132) X dX9_share_132 (by decide) ?_
            refine x_icmp_ne (tgt := 212) (pc := 134) X dX9_share_134 (by decide) (fun c25 => ?_) (fun c25 => ?_)
            · have h := ite_f c25 h
              refine x_iinc (v := i5 + 1) (lv' := [(5, .int (i5 + 1)), (0, .ref (cx.2.2 + a0)), (1, .int i1), (2, .int i2), (3, .int i3), (4, .int i4), (6, .int i6)]) (pc := 212) X dX9_share_212 5 rfl rfl (by decide) rfl ?_
              refine x_goto (tgt := 85) (pc := 215) X dX9_share_215 (by decide) ?_
              exact XW.sub [1, 2, 3, 4, 5, 0] rfl (ih85 _ _ _ _ h)
            · have h := ite_t c25 h
              refine x_aload_n (pc := 137) X dX9_share_137 (i := 0) rfl 0 rfl ?_
              obtain ⟨q11, e11, h⟩ := nns h
              refine x_getr (ci := 9) (k := 17) (n := 26) (C := RX9) (T := TX9) (pc := 138) X dX9_share_138 hk0 rfl (by decide) w_906 rfl e11 ?_
              refine x_iload (pc := 141) X dX9_share_141 6 rfl ?_
              refine x_dup2 (pc := 143) X dX9_share_143 rfl rfl ?_
              obtain ⟨g12, h⟩ := grd h
              refine x_iald (pc := 144) X dX9_share_144 g12 ?_
              refine x_aload_n (pc := 145) X dX9_share_145 (i := 0) rfl 0 rfl ?_
              obtain ⟨q13, e13, h⟩ := nns h
              refine x_getr (ci := 9) (k := 11) (n := 26) (C := RX9) (T := TX9) (pc := 146) X dX9_share_146 hk0 rfl (by decide) w_900 rfl e13 ?_
              refine x_bipush (v := 10) (pc := 149) X dX9_share_149 (by decide) ?_
              refine x_iload (pc := 151) X dX9_share_151 5 rfl ?_
              refine x_iadd (pc := 153) X dX9_share_153 ?_
              obtain ⟨g14, h⟩ := grd h
              refine x_iald (pc := 154) X dX9_share_154 g14 ?_
              refine x_iadd (pc := 155) X dX9_share_155 ?_
              obtain ⟨g15, h⟩ := grd h
              obtain ⟨D15, w15, h⟩ := pass h
              refine x_iast (D' := D15) (pc := 156) X dX9_share_156 g15 w15 ?_
              refine x_aload_n (pc := 157) X dX9_share_157 (i := 0) rfl 0 rfl ?_
              refine x_iload_n (pc := 158) X dX9_share_158 (i := 2) rfl 2 rfl ?_
              obtain ⟨z16, e16, h⟩ := bnds h
              refine x_callV (pc := 159) (As := [.int i2]) (st := []) (st' := [.int z16.1]) X (c_M_leastFor l cx nx N D15 P _ _ z16 e16) dX9_share_159 w_1151 m_M_leastFor rfl hk0 (ci := 9) rfl rfl ⟨by decide, by decide⟩ ⟨Nat.zero_le _, Nat.zero_le _⟩ rfl (Nat.le_of_ble_eq_true rfl) rfl ?_
              refine x_iload_n (pc := 162) X dX9_share_162 (i := 3) rfl 3 rfl ?_
              refine x_icmp_gt (tgt := 171) (pc := 163) X dX9_share_163 (by decide) (fun c24 => ?_) (fun c24 => ?_)
              · have h := ite_t c24 h
                refine x_bipush (v := (-4)) (pc := 171) X dX9_share_171 (by decide) ?_
                exact XW.sub [0, 1, 2, 3, 5, 6] rfl (hJ173 _ _ _ h)
              · have h := ite_f c24 h
                refine x_iload (pc := 166) X dX9_share_166 6 rfl ?_
                refine x_goto (tgt := 173) (pc := 168) X dX9_share_168 (by decide) ?_
                exact XW.sub [0, 1, 2, 3, 5, 6] rfl (hJ173 _ _ _ h)
      refine x_iload (pc := 85) X dX9_share_85 5 rfl ?_
      refine x_iload_n (pc := 87) X dX9_share_87 (i := 1) rfl 1 rfl ?_
      refine x_icmp_gt (tgt := 218) (pc := 88) X dX9_share_88 (by decide) (fun c28 => ?_) (fun c28 => ?_)
      · have h := ite_t c28 h
        refine x_iload (pc := 218) X dX9_share_218 4 rfl ?_
        obtain rfl := Option.some.inj h
        exact x_iret (pc := 220) X dX9_share_220
      · have h := ite_f c28 h
        refine x_aload_n (pc := 91) X dX9_share_91 (i := 0) rfl 0 rfl ?_
        obtain ⟨q7, e7, h⟩ := nns h
        refine x_getr (ci := 9) (k := 11) (n := 26) (C := RX9) (T := TX9) (pc := 92) X dX9_share_92 hk0 rfl (by decide) w_900 rfl e7 ?_
        refine x_iload (pc := 95) X dX9_share_95 5 rfl ?_
        obtain ⟨z8, e8, h⟩ := bnds h
        refine x_callS (pc := 97) (As := [.ref (cx.2.2 + q7), .int i5]) (st := []) (st' := [.int z8]) X (c_M_isBorne l cx nx N D P _ _ z8 e8) dX9_share_97 w_1058 m_M_isBorne rfl ⟨by decide, by decide⟩ ⟨Nat.zero_le _, Nat.zero_le _⟩ rfl (Nat.le_of_ble_eq_true rfl) rfl ?_
        refine x_if_eq (tgt := 212) (pc := 100) X dX9_share_100 (by decide) (fun c27 => ?_) (fun c27 => ?_)
        · have h := ite_t c27 h
          refine x_iinc (v := i5 + 1) (lv' := [(5, .int (i5 + 1)), (0, .ref (cx.2.2 + a0)), (1, .int i1), (2, .int i2), (3, .int i3), (4, .int i4)]) (pc := 212) X dX9_share_212 5 rfl rfl (by decide) rfl ?_
          refine x_goto (tgt := 85) (pc := 215) X dX9_share_215 (by decide) ?_
          exact XW.sub [1, 2, 3, 4, 5, 0] rfl (ih85 _ _ _ _ h)
        · have h := ite_f c27 h
          refine x_iload_n (pc := 103) X dX9_share_103 (i := 2) rfl 2 rfl ?_
          refine x_iconst (v := 1) (pc := 104) X dX9_share_104 (by decide) ?_
          refine x_iload (pc := 105) X dX9_share_105 5 rfl ?_
          refine x_ishl (pc := 107) X dX9_share_107 ?_
          refine x_iconst (v := (-1)) (pc := 108) X dX9_share_108 (by decide) ?_
          refine x_ixor (pc := 109) X dX9_share_109 ?_
          refine x_iand (pc := 110) X dX9_share_110 ?_
          refine x_istore_n (lv' := [(2, .int (i2 &&& ((1 <<< (i5 &&& 31)) ^^^ (-1)))), (0, .ref (cx.2.2 + a0)), (1, .int i1), (3, .int i3), (4, .int i4), (5, .int i5)]) (pc := 111) X dX9_share_111 (i := 2) rfl (by decide) rfl ?_
          refine x_bipush (v := (-4)) (pc := 112) X dX9_share_112 (by decide) ?_
          refine x_istore (lv' := [(4, .int (-4)), (2, .int (i2 &&& ((1 <<< (i5 &&& 31)) ^^^ (-1)))), (0, .ref (cx.2.2 + a0)), (1, .int i1), (3, .int i3), (5, .int i5)]) (pc := 114) X dX9_share_114 (by decide) rfl ?_
          refine x_iconst (v := 0) (pc := 116) X dX9_share_116 (by decide) ?_
          refine x_istore (lv' := [(6, .int 0), (4, .int (-4)), (2, .int (i2 &&& ((1 <<< (i5 &&& 31)) ^^^ (-1)))), (0, .ref (cx.2.2 + a0)), (1, .int i1), (3, .int i3), (5, .int i5)]) (pc := 117) X dX9_share_117 (by decide) rfl ?_
          exact XW.sub [3, 4, 2, 5, 1, 6, 0] rfl (hL119 _ _ _ _ _ _ h)
  have hJ66 : ∀ (D : Dt) (i3 : Int32), f_M_share_66 N nx D P i1 i3 = some z → XW p l e (rmk 3) s m args below meth c (MQ below (Qx cx (some (.int z.1)) z.2 P nx) args s 0 0 (AA cx)) cx 7 D P nx 0 0 66 [(1, .int i1), (3, .int i3)] [] := by
    intro D i3 h
    unfold f_M_share_66 at h
    refine x_iload_n (pc := 66) X dX9_share_66 (i := 1) rfl 0 rfl ?_
    refine x_iconst (v := (-1)) (pc := 67) X dX9_share_67 (by decide) ?_
    refine x_icmp_ne (tgt := 75) (pc := 68) X dX9_share_68 (by decide) (fun c4 => ?_) (fun c4 => ?_)
    · have h := ite_f c4 h
      refine x_bipush (v := (-4)) (pc := 75) X dX9_share_75 (by decide) ?_
      obtain rfl := Option.some.inj h
      exact x_iret (pc := 77) X dX9_share_77
    · have h := ite_t c4 h
      refine x_iload_n (pc := 71) X dX9_share_71 (i := 3) rfl 1 rfl ?_
      refine x_goto (tgt := 77) (pc := 72) X dX9_share_72 (by decide) ?_
      obtain rfl := Option.some.inj h
      exact x_iret (pc := 77) X dX9_share_77
  have hL26 : ∀ (i2 : Int32) (n : Nat) (D : Dt) (i3 : Int32), wk2 n (f_M_share_26 N nx P a0 i1 i2) D i3 = some z → XW p l e (rmk 3) s m args below meth c (MQ below (Qx cx (some (.int z.1)) z.2 P nx) args s 0 0 (AA cx)) cx 7 D P nx 0 0 26 [(0, .ref (cx.2.2 + a0)), (1, .int i1), (2, .int i2), (3, .int i3)] [] := by
    intro i2 n
    induction n with
    | zero => intro D i3 h; exact (nonz h).elim
    | succ n ih26 =>
      intro D i3 h
      have h : f_M_share_26 N nx P a0 i1 i2 (wk2 n (f_M_share_26 N nx P a0 i1 i2)) D i3 = some z := h
      generalize wk2 n (f_M_share_26 N nx P a0 i1 i2) = rec26 at ih26 h
      unfold f_M_share_26 at h
      refine x_iload_n (pc := 26) X dX9_share_26 (i := 3) rfl 3 rfl ?_
      refine x_iconst (v := 5) (pc := 27) X dX9_share_27 (by decide) ?_
      refine x_icmp_ge (tgt := 44) (pc := 28) X dX9_share_28 (by decide) (fun c33 => ?_) (fun c33 => ?_)
      · have h := ite_t c33 h
        refine x_aload_n (pc := 44) X dX9_share_44 (i := 0) rfl 0 rfl ?_
        refine x_iload_n (pc := 45) X dX9_share_45 (i := 2) rfl 2 rfl ?_
        obtain ⟨z3, e3, h⟩ := bnds h
        refine x_callV (pc := 46) (As := [.int i2]) (st := []) (st' := [.int z3.1]) X (c_M_leastFor l cx nx N D P _ _ z3 e3) dX9_share_46 w_1151 m_M_leastFor rfl hk0 (ci := 9) rfl rfl ⟨by decide, by decide⟩ ⟨Nat.zero_le _, Nat.zero_le _⟩ rfl (Nat.le_of_ble_eq_true rfl) rfl ?_
        refine x_istore_n (lv' := [(3, .int z3.1), (0, .ref (cx.2.2 + a0)), (1, .int i1), (2, .int i2)]) (pc := 49) X dX9_share_49 (i := 3) rfl (by decide) rfl ?_
        refine x_iload_n (pc := 50) X dX9_share_50 (i := 1) rfl 2 rfl ?_
        refine x_iconst (v := (-1)) (pc := 51) X dX9_share_51 (by decide) ?_
        refine x_icmp_eq (tgt := 66) (pc := 52) X dX9_share_52 (by decide) (fun c30 => ?_) (fun c30 => ?_)
        · have h := ite_t c30 h
          exact XW.sub [2, 0] rfl (hJ66 _ _ h)
        · have h := ite_f c30 h
          refine x_aload_n (pc := 55) X dX9_share_55 (i := 0) rfl 1 rfl ?_
          obtain ⟨q5, e5, h⟩ := nns h
          refine x_getr (ci := 9) (k := 11) (n := 26) (C := RX9) (T := TX9) (pc := 56) X dX9_share_56 hk0 rfl (by decide) w_900 rfl e5 ?_
          refine x_iload_n (pc := 59) X dX9_share_59 (i := 1) rfl 2 rfl ?_
          obtain ⟨z6, e6, h⟩ := bnds h
          refine x_callS (pc := 60) (As := [.ref (cx.2.2 + q5), .int i1]) (st := []) (st' := [.int z6]) X (c_M_isBorne l cx nx N z3.2 P _ _ z6 e6) dX9_share_60 w_1058 m_M_isBorne rfl ⟨by decide, by decide⟩ ⟨Nat.zero_le _, Nat.zero_le _⟩ rfl (Nat.le_of_ble_eq_true rfl) rfl ?_
          refine x_if_ne (tgt := 78) (pc := 63) X dX9_share_63 (by decide) (fun c29 => ?_) (fun c29 => ?_)
          · have h := ite_f c29 h
            refine x_bipush (v := (-4)) (pc := 78) X dX9_share_78 (by decide) ?_
            refine x_istore (lv' := [(4, .int (-4)), (3, .int z3.1), (0, .ref (cx.2.2 + a0)), (1, .int i1), (2, .int i2)]) (pc := 80) X dX9_share_80 (by decide) rfl ?_
            refine x_iconst (v := 0) (pc := 82) X dX9_share_82 (by decide) ?_
            refine x_istore (lv' := [(5, .int 0), (4, .int (-4)), (3, .int z3.1), (0, .ref (cx.2.2 + a0)), (1, .int i1), (2, .int i2)]) (pc := 83) X dX9_share_83 (by decide) rfl ?_
            exact XW.sub [3, 4, 5, 2, 1, 0] rfl (hL85 _ _ _ _ _ _ h)
          · have h := ite_t c29 h
            exact XW.sub [2, 0] rfl (hJ66 _ _ h)
      · have h := ite_f c33 h
        refine x_aload_n (pc := 31) X dX9_share_31 (i := 0) rfl 0 rfl ?_
        obtain ⟨q31, e31, h⟩ := nns h
        refine x_getr (ci := 9) (k := 17) (n := 26) (C := RX9) (T := TX9) (pc := 32) X dX9_share_32 hk0 rfl (by decide) w_906 rfl e31 ?_
        refine x_iload_n (pc := 35) X dX9_share_35 (i := 3) rfl 3 rfl ?_
        refine x_iconst (v := 0) (pc := 36) X dX9_share_36 (by decide) ?_
        obtain ⟨g32, h⟩ := grd h
        obtain ⟨D32, w32, h⟩ := pass h
        refine x_iast (D' := D32) (pc := 37) X dX9_share_37 g32 w32 ?_
        refine x_iinc (v := i3 + 1) (lv' := [(3, .int (i3 + 1)), (0, .ref (cx.2.2 + a0)), (1, .int i1), (2, .int i2)]) (pc := 38) X dX9_share_38 3 rfl rfl (by decide) rfl ?_
        refine x_goto (tgt := 26) (pc := 41) X dX9_share_41 (by decide) ?_
        exact XW.sub [1, 2, 3, 0] rfl (ih26 _ _ h)
  have hJ15 : ∀ (D : Dt), f_M_share_15 N nx D P a0 i1 = some z → XW p l e (rmk 3) s m args below meth c (MQ below (Qx cx (some (.int z.1)) z.2 P nx) args s 0 0 (AA cx)) cx 7 D P nx 0 0 15 [(0, .ref (cx.2.2 + a0)), (1, .int i1)] [] := by
    intro D h
    unfold f_M_share_15 at h
    refine x_aload_n (pc := 15) X dX9_share_15 (i := 0) rfl 0 rfl ?_
    refine x_aload_n (pc := 16) X dX9_share_16 (i := 0) rfl 0 rfl ?_
    obtain ⟨q1, e1, h⟩ := nns h
    refine x_getr (ci := 9) (k := 11) (n := 26) (C := RX9) (T := TX9) (pc := 17) X dX9_share_17 hk0 rfl (by decide) w_900 rfl e1 ?_
    obtain ⟨z2, e2, h⟩ := bnds h
    refine x_callV (pc := 20) (As := [.ref (cx.2.2 + q1)]) (st := []) (st' := [.int z2]) X (c_M_borne l cx nx N D P _ _ z2 e2) dX9_share_20 w_1132 m_M_borne rfl hk0 (ci := 9) rfl rfl ⟨by decide, by decide⟩ ⟨Nat.zero_le _, Nat.zero_le _⟩ rfl (Nat.le_of_ble_eq_true rfl) rfl ?_
    refine x_istore_n (lv' := [(2, .int z2), (0, .ref (cx.2.2 + a0)), (1, .int i1)]) (pc := 23) X dX9_share_23 (i := 2) rfl (by decide) rfl ?_
    refine x_iconst (v := 0) (pc := 24) X dX9_share_24 (by decide) ?_
    refine x_istore_n (lv' := [(3, .int 0), (2, .int z2), (0, .ref (cx.2.2 + a0)), (1, .int i1)]) (pc := 25) X dX9_share_25 (i := 3) rfl (by decide) rfl ?_
    exact XW.sub [2, 3, 1, 0] rfl (hL26 _ _ _ _ h)
  refine x_iload_n (pc := 0) X dX9_share_0 (i := 1) rfl 1 rfl ?_
  refine x_iconst (v := (-1)) (pc := 1) X dX9_share_1 (by decide) ?_
  refine x_icmp_eq (tgt := 15) (pc := 2) X dX9_share_2 (by decide) (fun c36 => ?_) (fun c36 => ?_)
  · have h := ite_t c36 h
    exact XW.sub [0, 1] rfl (hJ15 _ h)
  · have h := ite_f c36 h
    refine x_aload_n (pc := 5) X dX9_share_5 (i := 0) rfl 0 rfl ?_
    refine x_iload_n (pc := 6) X dX9_share_6 (i := 1) rfl 1 rfl ?_
    obtain ⟨z34, e34, h⟩ := bnds h
    refine x_callV (pc := 7) (As := [.int i1]) (st := []) (st' := [.int z34]) X (c_M_isPin l cx nx N D P _ _ z34 e34) dX9_share_7 w_1054 m_M_isPin rfl hk0 (ci := 9) rfl rfl ⟨by decide, by decide⟩ ⟨Nat.zero_le _, Nat.zero_le _⟩ rfl (Nat.le_of_ble_eq_true rfl) rfl ?_
    refine x_if_ne (tgt := 15) (pc := 10) X dX9_share_10 (by decide) (fun c35 => ?_) (fun c35 => ?_)
    · have h := ite_f c35 h
      exact XW.sub [0, 1] rfl (hJ15 _ h)
    · have h := ite_t c35 h
      refine x_iconst (v := (-1)) (pc := 13) X dX9_share_13 (by decide) ?_
      obtain rfl := Option.some.inj h
      exact x_iret (pc := 14) X dX9_share_14
theorem dX9_brokenWithout_0 : decode cX9_brokenWithout 0 = .ok (.aload_n 0, 1) := by decide +kernel
theorem dX9_brokenWithout_1 : decode cX9_brokenWithout 1 = .ok (.invokevirtual 191, 3) := by decide +kernel
theorem dX9_brokenWithout_4 : decode cX9_brokenWithout 4 = .ok (.aload_n 0, 1) := by decide +kernel
theorem dX9_brokenWithout_5 : decode cX9_brokenWithout 5 = .ok (.getfield 44, 3) := by decide +kernel
theorem dX9_brokenWithout_8 : decode cX9_brokenWithout 8 = .ok (.iconst 2, 1) := by decide +kernel
theorem dX9_brokenWithout_9 : decode cX9_brokenWithout 9 = .ok (.iload_n 1, 1) := by decide +kernel
theorem dX9_brokenWithout_10 : decode cX9_brokenWithout 10 = .ok (.iadd, 1) := by decide +kernel
theorem dX9_brokenWithout_11 : decode cX9_brokenWithout 11 = .ok (.bipush 7, 2) := by decide +kernel
theorem dX9_brokenWithout_13 : decode cX9_brokenWithout 13 = .ok (.iastore, 1) := by decide +kernel
theorem dX9_brokenWithout_14 : decode cX9_brokenWithout 14 = .ok (.aload_n 0, 1) := by decide +kernel
theorem dX9_brokenWithout_15 : decode cX9_brokenWithout 15 = .ok (.aload_n 0, 1) := by decide +kernel
theorem dX9_brokenWithout_16 : decode cX9_brokenWithout 16 = .ok (.getfield 44, 3) := by decide +kernel
theorem dX9_brokenWithout_19 : decode cX9_brokenWithout 19 = .ok (.invokevirtual 197, 3) := by decide +kernel
theorem dX9_brokenWithout_22 : decode cX9_brokenWithout 22 = .ok (.ireturn, 1) := by decide +kernel
def f_M_brokenWithout (N nx : Nat) (D : Dt) (P : Ft) (a0 : Nat) (i1 : Int32) : Option (Int32 × Dt) :=
  if kd nx a0 = 9 then
  (f_M_take N nx D P a0).bind fun z1 =>
  nn (P a0 16) fun q2 =>
  if ab nx q2 3 (2 + i1) = true then
  pas (upd2 z1 q2 (2 + i1).toNatClampNeg 7) fun D3 =>
  (f_M_broken N nx D3 P a0 q2).bind fun z4 =>
  some (z4, D3)
  else none
  else none
theorem m_M_brokenWithout : MV yX9_brokenWithout cX9_brokenWithout 2 (some .int) 1 := ⟨mT 1163 (by decide +kernel) rfl, mT 1162 (by decide +kernel) rfl, mT 48 (by decide +kernel) rfl, mT 68 (by decide +kernel) rfl, by decide +kernel, by decide +kernel, by decide +kernel⟩
set_option maxHeartbeats 4000000 in
set_option maxRecDepth 100000 in
theorem c_M_brokenWithout (l : Launch) (cx : Cx) (nx N : Nat) (D : Dt) (P : Ft) (a0 : Nat) (i1 : Int32) (z : Int32 × Dt) (h : f_M_brokenWithout N nx D P a0 i1 = some z) : Ct l cx yX9_brokenWithout cX9_brokenWithout 2 (some .int) 5 [.ref (cx.2.2 + a0), .int i1] D P nx (some (.int z.1)) z.2 P := by
  refine x_met0 (by decide) (Nat.le_of_ble_eq_true rfl) ?_
  intro p e s m args below meth c X
  have X : XC p s m args meth c cx cX9_brokenWithout 2 (some .int) "HeartPinsModel" "brokenWithout" := X
  refine XW.sub (lv' := [(0, .ref (cx.2.2 + a0)), (1, .int i1)]) [0, 1] rfl ?_
  unfold f_M_brokenWithout at h
  obtain ⟨hk0, h⟩ := grd h
  refine x_aload_n (pc := 0) X dX9_brokenWithout_0 (i := 0) rfl 0 rfl ?_
  obtain ⟨z1, e1, h⟩ := bnds h
  refine x_callV (pc := 1) (As := []) (st := []) (st' := []) X (c_M_take l cx nx N D P _ z1 e1) dX9_brokenWithout_1 w_1112 m_M_take rfl hk0 (ci := 9) rfl rfl ⟨by decide, by decide⟩ ⟨Nat.zero_le _, Nat.zero_le _⟩ rfl (Nat.le_of_ble_eq_true rfl) rfl ?_
  refine x_aload_n (pc := 4) X dX9_brokenWithout_4 (i := 0) rfl 0 rfl ?_
  obtain ⟨q2, e2, h⟩ := nns h
  refine x_getr (ci := 9) (k := 16) (n := 26) (C := RX9) (T := TX9) (pc := 5) X dX9_brokenWithout_5 hk0 rfl (by decide) w_905 rfl e2 ?_
  refine x_iconst (v := 2) (pc := 8) X dX9_brokenWithout_8 (by decide) ?_
  refine x_iload_n (pc := 9) X dX9_brokenWithout_9 (i := 1) rfl 1 rfl ?_
  refine x_iadd (pc := 10) X dX9_brokenWithout_10 ?_
  refine x_bipush (v := 7) (pc := 11) X dX9_brokenWithout_11 (by decide) ?_
  obtain ⟨g3, h⟩ := grd h
  obtain ⟨D3, w3, h⟩ := pass h
  refine x_iast (D' := D3) (pc := 13) X dX9_brokenWithout_13 g3 w3 ?_
  refine x_aload_n (pc := 14) X dX9_brokenWithout_14 (i := 0) rfl 0 rfl ?_
  refine x_aload_n (pc := 15) X dX9_brokenWithout_15 (i := 0) rfl 0 rfl ?_
  refine x_getr (ci := 9) (k := 16) (n := 26) (C := RX9) (T := TX9) (pc := 16) X dX9_brokenWithout_16 hk0 rfl (by decide) w_905 rfl e2 ?_
  obtain ⟨z4, e4, h⟩ := bnds h
  refine x_callV (pc := 19) (As := [.ref (cx.2.2 + q2)]) (st := []) (st' := [.int z4]) X (c_M_broken l cx nx N D3 P _ _ z4 e4) dX9_brokenWithout_19 w_1143 m_M_broken rfl hk0 (ci := 9) rfl rfl ⟨by decide, by decide⟩ ⟨Nat.zero_le _, Nat.zero_le _⟩ rfl (Nat.le_of_ble_eq_true rfl) rfl ?_
  obtain rfl := Option.some.inj h
  exact x_iret (pc := 22) X dX9_brokenWithout_22
theorem dX9_relief_0 : decode cX9_relief 0 = .ok (.iload_n 1, 1) := by decide +kernel
theorem dX9_relief_1 : decode cX9_relief 1 = .ok (.iconst 0, 1) := by decide +kernel
theorem dX9_relief_2 : decode cX9_relief 2 = .ok (.iconst 1, 1) := by decide +kernel
theorem dX9_relief_3 : decode cX9_relief 3 = .ok (.invokestatic 74, 3) := by decide +kernel
theorem dX9_relief_6 : decode cX9_relief 6 = .ok (.ifCond .ne 5, 3) := by decide +kernel
theorem dX9_relief_9 : decode cX9_relief 9 = .ok (.iconst (-1), 1) := by decide +kernel
theorem dX9_relief_10 : decode cX9_relief 10 = .ok (.ireturn, 1) := by decide +kernel
theorem dX9_relief_11 : decode cX9_relief 11 = .ok (.bipush (-4), 2) := by decide +kernel
theorem dX9_relief_13 : decode cX9_relief 13 = .ok (.istore_n 2, 1) := by decide +kernel
theorem dX9_relief_14 : decode cX9_relief 14 = .ok (.iconst 0, 1) := by decide +kernel
theorem dX9_relief_15 : decode cX9_relief 15 = .ok (.istore_n 3, 1) := by decide +kernel
theorem dX9_relief_16 : decode cX9_relief 16 = .ok (.iconst 0, 1) := by decide +kernel
theorem dX9_relief_17 : decode cX9_relief 17 = .ok (.istore 4, 2) := by decide +kernel
theorem dX9_relief_19 : decode cX9_relief 19 = .ok (.iload 4, 2) := by decide +kernel
theorem dX9_relief_21 : decode cX9_relief 21 = .ok (.aload_n 0, 1) := by decide +kernel
theorem dX9_relief_22 : decode cX9_relief 22 = .ok (.getfield 17, 3) := by decide +kernel
theorem dX9_relief_25 : decode cX9_relief 25 = .ok (.iconst 0, 1) := by decide +kernel
theorem dX9_relief_26 : decode cX9_relief 26 = .ok (.iaload, 1) := by decide +kernel
theorem dX9_relief_27 : decode cX9_relief 27 = .ok (.if_icmp .ge 75, 3) := by decide +kernel
theorem dX9_relief_30 : decode cX9_relief 30 = .ok (.aload_n 0, 1) := by decide +kernel
theorem dX9_relief_31 : decode cX9_relief 31 = .ok (.getfield 35, 3) := by decide +kernel
theorem dX9_relief_34 : decode cX9_relief 34 = .ok (.iload 4, 2) := by decide +kernel
theorem dX9_relief_36 : decode cX9_relief 36 = .ok (.invokestatic 145, 3) := by decide +kernel
theorem dX9_relief_39 : decode cX9_relief 39 = .ok (.ifCond .eq 57, 3) := by decide +kernel
theorem dX9_relief_42 : decode cX9_relief 42 = .ok (.aload_n 0, 1) := by decide +kernel
theorem dX9_relief_43 : decode cX9_relief 43 = .ok (.iload 4, 2) := by decide +kernel
theorem dX9_relief_45 : decode cX9_relief 45 = .ok (.invokevirtual 214, 3) := by decide +kernel
theorem dX9_relief_48 : decode cX9_relief 48 = .ok (.istore 5, 2) := by decide +kernel
theorem dX9_relief_50 : decode cX9_relief 50 = .ok (.iload_n 2, 1) := by decide +kernel
theorem dX9_relief_51 : decode cX9_relief 51 = .ok (.bipush (-4), 2) := by decide +kernel
theorem dX9_relief_53 : decode cX9_relief 53 = .ok (.if_icmp .eq 37, 3) := by decide +kernel
theorem dX9_relief_56 : decode cX9_relief 56 = .ok (.iload 5, 2) := by decide +kernel
theorem dX9_relief_58 : decode cX9_relief 58 = .ok (.iload_n 3, 1) := by decide +kernel
theorem dX9_relief_59 : decode cX9_relief 59 = .ok (.if_icmp .lt 31, 3) := by decide +kernel
theorem dX9_relief_62 : decode cX9_relief 62 = .ok (.iload 5, 2) := by decide +kernel
theorem dX9_relief_64 : decode cX9_relief 64 = .ok (.iload_n 3, 1) := by decide +kernel
theorem dX9_relief_65 : decode cX9_relief 65 = .ok (.if_icmp .ne 31, 3) := by decide +kernel
theorem dX9_relief_68 : decode cX9_relief 68 = .ok (.aload_n 0, 1) := by decide +kernel
theorem dX9_relief_69 : decode cX9_relief 69 = .ok (.getfield 35, 3) := by decide +kernel
theorem dX9_relief_72 : decode cX9_relief 72 = .ok (.bipush 10, 2) := by decide +kernel
theorem dX9_relief_74 : decode cX9_relief 74 = .ok (.iload 4, 2) := by decide +kernel
theorem dX9_relief_76 : decode cX9_relief 76 = .ok (.iadd, 1) := by decide +kernel
theorem dX9_relief_77 : decode cX9_relief 77 = .ok (.iaload, 1) := by decide +kernel
theorem dX9_relief_78 : decode cX9_relief 78 = .ok (.aload_n 0, 1) := by decide +kernel
theorem dX9_relief_79 : decode cX9_relief 79 = .ok (.getfield 35, 3) := by decide +kernel
theorem dX9_relief_82 : decode cX9_relief 82 = .ok (.bipush 10, 2) := by decide +kernel
theorem dX9_relief_84 : decode cX9_relief 84 = .ok (.iload_n 2, 1) := by decide +kernel
theorem dX9_relief_85 : decode cX9_relief 85 = .ok (.iadd, 1) := by decide +kernel
theorem dX9_relief_86 : decode cX9_relief 86 = .ok (.iaload, 1) := by decide +kernel
theorem dX9_relief_87 : decode cX9_relief 87 = .ok (.if_icmp .le 9, 3) := by decide +kernel
theorem dX9_relief_90 : decode cX9_relief 90 = .ok (.iload 4, 2) := by decide +kernel
theorem dX9_relief_92 : decode cX9_relief 92 = .ok (.istore_n 2, 1) := by decide +kernel
theorem dX9_relief_93 : decode cX9_relief 93 = .ok (.iload 5, 2) := by decide +kernel
theorem dX9_relief_95 : decode cX9_relief 95 = .ok (.istore_n 3, 1) := by decide +kernel
theorem dX9_relief_96 : decode cX9_relief 96 = .ok (.iinc 4 1, 3) := by decide +kernel
theorem dX9_relief_99 : decode cX9_relief 99 = .ok (.goto (-80), 3) := by decide +kernel
theorem dX9_relief_102 : decode cX9_relief 102 = .ok (.iload_n 2, 1) := by decide +kernel
theorem dX9_relief_103 : decode cX9_relief 103 = .ok (.bipush (-4), 2) := by decide +kernel
theorem dX9_relief_105 : decode cX9_relief 105 = .ok (.if_icmp .eq 7, 3) := by decide +kernel
theorem dX9_relief_108 : decode cX9_relief 108 = .ok (.iload_n 1, 1) := by decide +kernel
theorem dX9_relief_109 : decode cX9_relief 109 = .ok (.ifCond .ne 7, 3) := by decide +kernel
theorem dX9_relief_112 : decode cX9_relief 112 = .ok (.iload_n 2, 1) := by decide +kernel
theorem dX9_relief_113 : decode cX9_relief 113 = .ok (.goto 4, 3) := by decide +kernel
theorem dX9_relief_116 : decode cX9_relief 116 = .ok (.iload_n 3, 1) := by decide +kernel
theorem dX9_relief_117 : decode cX9_relief 117 = .ok (.ireturn, 1) := by decide +kernel
def f_M_relief_90 (N nx : Nat) (rec19 : Dt → Int32 → Int32 → Int32 → Option (Int32 × Dt)) (D : Dt) (P : Ft) (a0 : Nat) (i1 : Int32) (i4 : Int32) (i5 : Int32) : Option (Int32 × Dt) :=
  rec19 D i4 i5 (i4 + 1)
def f_M_relief_19 (N nx : Nat) (P : Ft) (a0 : Nat) (i1 : Int32) (rec19 : Dt → Int32 → Int32 → Int32 → Option (Int32 × Dt)) (D : Dt) (i2 : Int32) (i3 : Int32) (i4 : Int32) : Option (Int32 × Dt) :=
  nn (P a0 3) fun q2 =>
  if ab nx q2 3 0 = true then
  if D q2 (0 : Int32).toNatClampNeg ≤ i4 then
    if i2 = (-4) then
      some (i2, D)
    else
      if i1 = 0 then
        some (i2, D)
      else
        some (i3, D)
  else
    nn (P a0 11) fun q6 =>
    (f_M_isBorne N nx D P q6 i4).bind fun z7 =>
    if z7 = 0 then
      rec19 D i2 i3 (i4 + 1)
    else
      (f_M_brokenWithout N nx D P a0 i4).bind fun z8 =>
      if i2 = (-4) then
        f_M_relief_90 N nx rec19 z8.2 P a0 i1 i4 z8.1
      else
        if z8.1 < i3 then
          f_M_relief_90 N nx rec19 z8.2 P a0 i1 i4 z8.1
        else
          if z8.1 = i3 then
            if ab nx q6 3 (10 + i4) = true then
            if ab nx q6 3 (10 + i2) = true then
            if z8.2 q6 (10 + i4).toNatClampNeg ≤ z8.2 q6 (10 + i2).toNatClampNeg then
              rec19 z8.2 i2 i3 (i4 + 1)
            else
              f_M_relief_90 N nx rec19 z8.2 P a0 i1 i4 z8.1
            else none
            else none
          else
            rec19 z8.2 i2 i3 (i4 + 1)
  else none
def f_M_relief (N nx : Nat) (D : Dt) (P : Ft) (a0 : Nat) (i1 : Int32) : Option (Int32 × Dt) :=
  if kd nx a0 = 9 then
  (f_M_in N nx D P i1 0 1).bind fun z1 =>
  if z1 = 0 then
    some ((-1), D)
  else
    wk4 N (f_M_relief_19 N nx P a0 i1) D (-4) 0 0
  else none
theorem m_M_relief : MV yX9_relief cX9_relief 6 (some .int) 1 := ⟨mT 1159 (by decide +kernel) rfl, mT 1157 (by decide +kernel) rfl, mT 1158 (by decide +kernel) rfl, mT 68 (by decide +kernel) rfl, by decide +kernel, by decide +kernel, by decide +kernel⟩
set_option maxHeartbeats 4000000 in
set_option maxRecDepth 100000 in
theorem c_M_relief (l : Launch) (cx : Cx) (nx N : Nat) (D : Dt) (P : Ft) (a0 : Nat) (i1 : Int32) (z : Int32 × Dt) (h : f_M_relief N nx D P a0 i1 = some z) : Ct l cx yX9_relief cX9_relief 6 (some .int) 6 [.ref (cx.2.2 + a0), .int i1] D P nx (some (.int z.1)) z.2 P := by
  refine x_met0 (by decide) (Nat.le_of_ble_eq_true rfl) ?_
  intro p e s m args below meth c X
  have X : XC p s m args meth c cx cX9_relief 6 (some .int) "HeartPinsModel" "relief" := X
  refine XW.sub (lv' := [(0, .ref (cx.2.2 + a0)), (1, .int i1)]) [0, 1] rfl ?_
  unfold f_M_relief at h
  obtain ⟨hk0, h⟩ := grd h
  have hL19 : ∀ (n : Nat) (D : Dt) (i2 : Int32) (i3 : Int32) (i4 : Int32), wk4 n (f_M_relief_19 N nx P a0 i1) D i2 i3 i4 = some z → XW p l e (rmk 6) s m args below meth c (MQ below (Qx cx (some (.int z.1)) z.2 P nx) args s 0 0 (AA cx)) cx 6 D P nx 0 0 19 [(0, .ref (cx.2.2 + a0)), (1, .int i1), (2, .int i2), (3, .int i3), (4, .int i4)] [] := by
    intro n
    induction n with
    | zero => intro D i2 i3 i4 h; exact (nonz h).elim
    | succ n ih19 =>
      intro D i2 i3 i4 h
      have h : f_M_relief_19 N nx P a0 i1 (wk4 n (f_M_relief_19 N nx P a0 i1)) D i2 i3 i4 = some z := h
      generalize wk4 n (f_M_relief_19 N nx P a0 i1) = rec19 at ih19 h
      unfold f_M_relief_19 at h
      have hJ90 : ∀ (D : Dt) (i4 : Int32) (i5 : Int32), f_M_relief_90 N nx rec19 D P a0 i1 i4 i5 = some z → XW p l e (rmk 6) s m args below meth c (MQ below (Qx cx (some (.int z.1)) z.2 P nx) args s 0 0 (AA cx)) cx 6 D P nx 0 0 90 [(0, .ref (cx.2.2 + a0)), (1, .int i1), (4, .int i4), (5, .int i5)] [] := by
        intro D i4 i5 h
        unfold f_M_relief_90 at h
        refine x_iload (pc := 90) X dX9_relief_90 2 rfl ?_
        refine x_istore_n (lv' := [(2, .int i4), (0, .ref (cx.2.2 + a0)), (1, .int i1), (4, .int i4), (5, .int i5)]) (pc := 92) X dX9_relief_92 (i := 2) rfl (by decide) rfl ?_
        refine x_iload (pc := 93) X dX9_relief_93 4 rfl ?_
        refine x_istore_n (lv' := [(3, .int i5), (2, .int i4), (0, .ref (cx.2.2 + a0)), (1, .int i1), (4, .int i4), (5, .int i5)]) (pc := 95) X dX9_relief_95 (i := 3) rfl (by decide) rfl ?_
        refine x_iinc (v := i4 + 1) (lv' := [(4, .int (i4 + 1)), (3, .int i5), (2, .int i4), (0, .ref (cx.2.2 + a0)), (1, .int i1), (5, .int i5)]) (pc := 96) X dX9_relief_96 4 rfl rfl (by decide) rfl ?_
        refine x_goto (tgt := 19) (pc := 99) X dX9_relief_99 (by decide) ?_
        exact XW.sub [3, 4, 2, 1, 0] rfl (ih19 _ _ _ _ h)
      refine x_iload (pc := 19) X dX9_relief_19 4 rfl ?_
      refine x_aload_n (pc := 21) X dX9_relief_21 (i := 0) rfl 0 rfl ?_
      obtain ⟨q2, e2, h⟩ := nns h
      refine x_getr (ci := 9) (k := 3) (n := 26) (C := RX9) (T := TX9) (pc := 22) X dX9_relief_22 hk0 rfl (by decide) w_892 rfl e2 ?_
      refine x_iconst (v := 0) (pc := 25) X dX9_relief_25 (by decide) ?_
      obtain ⟨g3, h⟩ := grd h
      refine x_iald (pc := 26) X dX9_relief_26 g3 ?_
      refine x_icmp_ge (tgt := 102) (pc := 27) X dX9_relief_27 (by decide) (fun c16 => ?_) (fun c16 => ?_)
      · have h := ite_t c16 h
        refine x_iload_n (pc := 102) X dX9_relief_102 (i := 2) rfl 2 rfl ?_
        refine x_bipush (v := (-4)) (pc := 103) X dX9_relief_103 (by decide) ?_
        refine x_icmp_eq (tgt := 112) (pc := 105) X dX9_relief_105 (by decide) (fun c5 => ?_) (fun c5 => ?_)
        · have h := ite_t c5 h
          refine x_iload_n (pc := 112) X dX9_relief_112 (i := 2) rfl 2 rfl ?_
          refine x_goto (tgt := 117) (pc := 113) X dX9_relief_113 (by decide) ?_
          obtain rfl := Option.some.inj h
          exact x_iret (pc := 117) X dX9_relief_117
        · have h := ite_f c5 h
          refine x_iload_n (pc := 108) X dX9_relief_108 (i := 1) rfl 1 rfl ?_
          refine x_if_ne (tgt := 116) (pc := 109) X dX9_relief_109 (by decide) (fun c4 => ?_) (fun c4 => ?_)
          · have h := ite_f c4 h
            refine x_iload_n (pc := 116) X dX9_relief_116 (i := 3) rfl 3 rfl ?_
            obtain rfl := Option.some.inj h
            exact x_iret (pc := 117) X dX9_relief_117
          · have h := ite_t c4 h
            refine x_iload_n (pc := 112) X dX9_relief_112 (i := 2) rfl 2 rfl ?_
            refine x_goto (tgt := 117) (pc := 113) X dX9_relief_113 (by decide) ?_
            obtain rfl := Option.some.inj h
            exact x_iret (pc := 117) X dX9_relief_117
      · have h := ite_f c16 h
        refine x_aload_n (pc := 30) X dX9_relief_30 (i := 0) rfl 0 rfl ?_
        obtain ⟨q6, e6, h⟩ := nns h
        refine x_getr (ci := 9) (k := 11) (n := 26) (C := RX9) (T := TX9) (pc := 31) X dX9_relief_31 hk0 rfl (by decide) w_900 rfl e6 ?_
        refine x_iload (pc := 34) X dX9_relief_34 4 rfl ?_
        obtain ⟨z7, e7, h⟩ := bnds h
        refine x_callS (pc := 36) (As := [.ref (cx.2.2 + q6), .int i4]) (st := []) (st' := [.int z7]) X (c_M_isBorne l cx nx N D P _ _ z7 e7) dX9_relief_36 w_1058 m_M_isBorne rfl ⟨by decide, by decide⟩ ⟨Nat.zero_le _, Nat.zero_le _⟩ rfl (Nat.le_of_ble_eq_true rfl) rfl ?_
        refine x_if_eq (tgt := 96) (pc := 39) X dX9_relief_39 (by decide) (fun c15 => ?_) (fun c15 => ?_)
        · have h := ite_t c15 h
          refine x_iinc (v := i4 + 1) (lv' := [(4, .int (i4 + 1)), (0, .ref (cx.2.2 + a0)), (1, .int i1), (2, .int i2), (3, .int i3)]) (pc := 96) X dX9_relief_96 4 rfl rfl (by decide) rfl ?_
          refine x_goto (tgt := 19) (pc := 99) X dX9_relief_99 (by decide) ?_
          exact XW.sub [1, 2, 3, 4, 0] rfl (ih19 _ _ _ _ h)
        · have h := ite_f c15 h
          refine x_aload_n (pc := 42) X dX9_relief_42 (i := 0) rfl 0 rfl ?_
          refine x_iload (pc := 43) X dX9_relief_43 4 rfl ?_
          obtain ⟨z8, e8, h⟩ := bnds h
          refine x_callV (pc := 45) (As := [.int i4]) (st := []) (st' := [.int z8.1]) X (c_M_brokenWithout l cx nx N D P _ _ z8 e8) dX9_relief_45 w_1160 m_M_brokenWithout rfl hk0 (ci := 9) rfl rfl ⟨by decide, by decide⟩ ⟨Nat.zero_le _, Nat.zero_le _⟩ rfl (Nat.le_of_ble_eq_true rfl) rfl ?_
          refine x_istore (lv' := [(5, .int z8.1), (0, .ref (cx.2.2 + a0)), (1, .int i1), (2, .int i2), (3, .int i3), (4, .int i4)]) (pc := 48) X dX9_relief_48 (by decide) rfl ?_
          refine x_iload_n (pc := 50) X dX9_relief_50 (i := 2) rfl 3 rfl ?_
          refine x_bipush (v := (-4)) (pc := 51) X dX9_relief_51 (by decide) ?_
          refine x_icmp_eq (tgt := 90) (pc := 53) X dX9_relief_53 (by decide) (fun c14 => ?_) (fun c14 => ?_)
          · have h := ite_t c14 h
            exact XW.sub [1, 2, 5, 0] rfl (hJ90 _ _ _ h)
          · have h := ite_f c14 h
            refine x_iload (pc := 56) X dX9_relief_56 0 rfl ?_
            refine x_iload_n (pc := 58) X dX9_relief_58 (i := 3) rfl 4 rfl ?_
            refine x_icmp_lt (tgt := 90) (pc := 59) X dX9_relief_59 (by decide) (fun c13 => ?_) (fun c13 => ?_)
            · have h := ite_t c13 h
              exact XW.sub [1, 2, 5, 0] rfl (hJ90 _ _ _ h)
            · have h := ite_f c13 h
              refine x_iload (pc := 62) X dX9_relief_62 0 rfl ?_
              refine x_iload_n (pc := 64) X dX9_relief_64 (i := 3) rfl 4 rfl ?_
              refine x_icmp_ne (tgt := 96) (pc := 65) X dX9_relief_65 (by decide) (fun c12 => ?_) (fun c12 => ?_)
              · have h := ite_f c12 h
                refine x_iinc (v := i4 + 1) (lv' := [(4, .int (i4 + 1)), (5, .int z8.1), (0, .ref (cx.2.2 + a0)), (1, .int i1), (2, .int i2), (3, .int i3)]) (pc := 96) X dX9_relief_96 5 rfl rfl (by decide) rfl ?_
                refine x_goto (tgt := 19) (pc := 99) X dX9_relief_99 (by decide) ?_
                exact XW.sub [2, 3, 4, 5, 0] rfl (ih19 _ _ _ _ h)
              · have h := ite_t c12 h
                refine x_aload_n (pc := 68) X dX9_relief_68 (i := 0) rfl 1 rfl ?_
                refine x_getr (ci := 9) (k := 11) (n := 26) (C := RX9) (T := TX9) (pc := 69) X dX9_relief_69 hk0 rfl (by decide) w_900 rfl e6 ?_
                refine x_bipush (v := 10) (pc := 72) X dX9_relief_72 (by decide) ?_
                refine x_iload (pc := 74) X dX9_relief_74 5 rfl ?_
                refine x_iadd (pc := 76) X dX9_relief_76 ?_
                obtain ⟨g9, h⟩ := grd h
                refine x_iald (pc := 77) X dX9_relief_77 g9 ?_
                refine x_aload_n (pc := 78) X dX9_relief_78 (i := 0) rfl 1 rfl ?_
                refine x_getr (ci := 9) (k := 11) (n := 26) (C := RX9) (T := TX9) (pc := 79) X dX9_relief_79 hk0 rfl (by decide) w_900 rfl e6 ?_
                refine x_bipush (v := 10) (pc := 82) X dX9_relief_82 (by decide) ?_
                refine x_iload_n (pc := 84) X dX9_relief_84 (i := 2) rfl 3 rfl ?_
                refine x_iadd (pc := 85) X dX9_relief_85 ?_
                obtain ⟨g10, h⟩ := grd h
                refine x_iald (pc := 86) X dX9_relief_86 g10 ?_
                refine x_icmp_le (tgt := 96) (pc := 87) X dX9_relief_87 (by decide) (fun c11 => ?_) (fun c11 => ?_)
                · have h := ite_t c11 h
                  refine x_iinc (v := i4 + 1) (lv' := [(4, .int (i4 + 1)), (5, .int z8.1), (0, .ref (cx.2.2 + a0)), (1, .int i1), (2, .int i2), (3, .int i3)]) (pc := 96) X dX9_relief_96 5 rfl rfl (by decide) rfl ?_
                  refine x_goto (tgt := 19) (pc := 99) X dX9_relief_99 (by decide) ?_
                  exact XW.sub [2, 3, 4, 5, 0] rfl (ih19 _ _ _ _ h)
                · have h := ite_f c11 h
                  exact XW.sub [1, 2, 5, 0] rfl (hJ90 _ _ _ h)
  refine x_iload_n (pc := 0) X dX9_relief_0 (i := 1) rfl 1 rfl ?_
  refine x_iconst (v := 0) (pc := 1) X dX9_relief_1 (by decide) ?_
  refine x_iconst (v := 1) (pc := 2) X dX9_relief_2 (by decide) ?_
  obtain ⟨z1, e1, h⟩ := bnds h
  refine x_callS (pc := 3) (As := [.int i1, .int 0, .int 1]) (st := []) (st' := [.int z1]) X (c_M_in l cx nx N D P _ _ _ z1 e1) dX9_relief_3 w_972 m_M_in rfl ⟨by decide, by decide⟩ ⟨Nat.zero_le _, Nat.zero_le _⟩ rfl (Nat.le_of_ble_eq_true rfl) rfl ?_
  refine x_if_ne (tgt := 11) (pc := 6) X dX9_relief_6 (by decide) (fun c17 => ?_) (fun c17 => ?_)
  · have h := ite_f c17 h
    refine x_bipush (v := (-4)) (pc := 11) X dX9_relief_11 (by decide) ?_
    refine x_istore_n (lv' := [(2, .int (-4)), (0, .ref (cx.2.2 + a0)), (1, .int i1)]) (pc := 13) X dX9_relief_13 (i := 2) rfl (by decide) rfl ?_
    refine x_iconst (v := 0) (pc := 14) X dX9_relief_14 (by decide) ?_
    refine x_istore_n (lv' := [(3, .int 0), (2, .int (-4)), (0, .ref (cx.2.2 + a0)), (1, .int i1)]) (pc := 15) X dX9_relief_15 (i := 3) rfl (by decide) rfl ?_
    refine x_iconst (v := 0) (pc := 16) X dX9_relief_16 (by decide) ?_
    refine x_istore (lv' := [(4, .int 0), (3, .int 0), (2, .int (-4)), (0, .ref (cx.2.2 + a0)), (1, .int i1)]) (pc := 17) X dX9_relief_17 (by decide) rfl ?_
    exact XW.sub [3, 4, 2, 1, 0] rfl (hL19 _ _ _ _ _ h)
  · have h := ite_t c17 h
    refine x_iconst (v := (-1)) (pc := 9) X dX9_relief_9 (by decide) ?_
    obtain rfl := Option.some.inj h
    exact x_iret (pc := 10) X dX9_relief_10
theorem dX9_pair_0 : decode cX9_pair 0 = .ok (.iload_n 1, 1) := by decide +kernel
theorem dX9_pair_1 : decode cX9_pair 1 = .ok (.iconst 2, 1) := by decide +kernel
theorem dX9_pair_2 : decode cX9_pair 2 = .ok (.bipush 80, 2) := by decide +kernel
theorem dX9_pair_4 : decode cX9_pair 4 = .ok (.invokestatic 74, 3) := by decide +kernel
theorem dX9_pair_7 : decode cX9_pair 7 = .ok (.ifCond .ne 5, 3) := by decide +kernel
theorem dX9_pair_10 : decode cX9_pair 10 = .ok (.iconst (-1), 1) := by decide +kernel
theorem dX9_pair_11 : decode cX9_pair 11 = .ok (.ireturn, 1) := by decide +kernel
theorem dX9_pair_12 : decode cX9_pair 12 = .ok (.iconst 0, 1) := by decide +kernel
theorem dX9_pair_13 : decode cX9_pair 13 = .ok (.istore_n 2, 1) := by decide +kernel
theorem dX9_pair_14 : decode cX9_pair 14 = .ok (.iload_n 2, 1) := by decide +kernel
theorem dX9_pair_15 : decode cX9_pair 15 = .ok (.aload_n 0, 1) := by decide +kernel
theorem dX9_pair_16 : decode cX9_pair 16 = .ok (.getfield 17, 3) := by decide +kernel
theorem dX9_pair_19 : decode cX9_pair 19 = .ok (.iconst 0, 1) := by decide +kernel
theorem dX9_pair_20 : decode cX9_pair 20 = .ok (.iaload, 1) := by decide +kernel
theorem dX9_pair_21 : decode cX9_pair 21 = .ok (.if_icmp .ge 97, 3) := by decide +kernel
theorem dX9_pair_24 : decode cX9_pair 24 = .ok (.iload_n 2, 1) := by decide +kernel
theorem dX9_pair_25 : decode cX9_pair 25 = .ok (.iconst 1, 1) := by decide +kernel
theorem dX9_pair_26 : decode cX9_pair 26 = .ok (.iadd, 1) := by decide +kernel
theorem dX9_pair_27 : decode cX9_pair 27 = .ok (.istore_n 3, 1) := by decide +kernel
theorem dX9_pair_28 : decode cX9_pair 28 = .ok (.iload_n 3, 1) := by decide +kernel
theorem dX9_pair_29 : decode cX9_pair 29 = .ok (.aload_n 0, 1) := by decide +kernel
theorem dX9_pair_30 : decode cX9_pair 30 = .ok (.getfield 17, 3) := by decide +kernel
theorem dX9_pair_33 : decode cX9_pair 33 = .ok (.iconst 0, 1) := by decide +kernel
theorem dX9_pair_34 : decode cX9_pair 34 = .ok (.iaload, 1) := by decide +kernel
theorem dX9_pair_35 : decode cX9_pair 35 = .ok (.if_icmp .ge 77, 3) := by decide +kernel
theorem dX9_pair_38 : decode cX9_pair 38 = .ok (.aload_n 0, 1) := by decide +kernel
theorem dX9_pair_39 : decode cX9_pair 39 = .ok (.getfield 35, 3) := by decide +kernel
theorem dX9_pair_42 : decode cX9_pair 42 = .ok (.iconst 2, 1) := by decide +kernel
theorem dX9_pair_43 : decode cX9_pair 43 = .ok (.iload_n 2, 1) := by decide +kernel
theorem dX9_pair_44 : decode cX9_pair 44 = .ok (.iadd, 1) := by decide +kernel
theorem dX9_pair_45 : decode cX9_pair 45 = .ok (.iaload, 1) := by decide +kernel
theorem dX9_pair_46 : decode cX9_pair 46 = .ok (.bipush 6, 2) := by decide +kernel
theorem dX9_pair_48 : decode cX9_pair 48 = .ok (.if_icmp .ge 20, 3) := by decide +kernel
theorem dX9_pair_51 : decode cX9_pair 51 = .ok (.aload_n 0, 1) := by decide +kernel
theorem dX9_pair_52 : decode cX9_pair 52 = .ok (.getfield 35, 3) := by decide +kernel
theorem dX9_pair_55 : decode cX9_pair 55 = .ok (.iconst 2, 1) := by decide +kernel
theorem dX9_pair_56 : decode cX9_pair 56 = .ok (.iload_n 3, 1) := by decide +kernel
theorem dX9_pair_57 : decode cX9_pair 57 = .ok (.iadd, 1) := by decide +kernel
theorem dX9_pair_58 : decode cX9_pair 58 = .ok (.iaload, 1) := by decide +kernel
theorem dX9_pair_59 : decode cX9_pair 59 = .ok (.bipush 6, 2) := by decide +kernel
theorem dX9_pair_61 : decode cX9_pair 61 = .ok (.if_icmp .ge 7, 3) := by decide +kernel
theorem dX9_pair_64 : decode cX9_pair 64 = .ok (.iconst 1, 1) := by decide +kernel
theorem dX9_pair_65 : decode cX9_pair 65 = .ok (.goto 4, 3) := by decide +kernel
theorem dX9_pair_68 : decode cX9_pair 68 = .ok (.iconst 0, 1) := by decide +kernel
theorem dX9_pair_69 : decode cX9_pair 69 = .ok (.istore 4, 2) := by decide +kernel
theorem dX9_pair_71 : decode cX9_pair 71 = .ok (.iload 4, 2) := by decide +kernel
theorem dX9_pair_73 : decode cX9_pair 73 = .ok (.ifCond .eq 33, 3) := by decide +kernel
theorem dX9_pair_76 : decode cX9_pair 76 = .ok (.aload_n 0, 1) := by decide +kernel
theorem dX9_pair_77 : decode cX9_pair 77 = .ok (.getfield 35, 3) := by decide +kernel
theorem dX9_pair_80 : decode cX9_pair 80 = .ok (.bipush 10, 2) := by decide +kernel
theorem dX9_pair_82 : decode cX9_pair 82 = .ok (.iload_n 2, 1) := by decide +kernel
theorem dX9_pair_83 : decode cX9_pair 83 = .ok (.iadd, 1) := by decide +kernel
theorem dX9_pair_84 : decode cX9_pair 84 = .ok (.iaload, 1) := by decide +kernel
theorem dX9_pair_85 : decode cX9_pair 85 = .ok (.aload_n 0, 1) := by decide +kernel
theorem dX9_pair_86 : decode cX9_pair 86 = .ok (.getfield 35, 3) := by decide +kernel
theorem dX9_pair_89 : decode cX9_pair 89 = .ok (.bipush 10, 2) := by decide +kernel
theorem dX9_pair_91 : decode cX9_pair 91 = .ok (.iload_n 3, 1) := by decide +kernel
theorem dX9_pair_92 : decode cX9_pair 92 = .ok (.iadd, 1) := by decide +kernel
theorem dX9_pair_93 : decode cX9_pair 93 = .ok (.iaload, 1) := by decide +kernel
theorem dX9_pair_94 : decode cX9_pair 94 = .ok (.iadd, 1) := by decide +kernel
theorem dX9_pair_95 : decode cX9_pair 95 = .ok (.iload_n 1, 1) := by decide +kernel
theorem dX9_pair_96 : decode cX9_pair 96 = .ok (.if_icmp .ne 10, 3) := by decide +kernel
theorem dX9_pair_99 : decode cX9_pair 99 = .ok (.bipush 10, 2) := by decide +kernel
theorem dX9_pair_101 : decode cX9_pair 101 = .ok (.iload_n 2, 1) := by decide +kernel
theorem dX9_pair_102 : decode cX9_pair 102 = .ok (.imul, 1) := by decide +kernel
theorem dX9_pair_103 : decode cX9_pair 103 = .ok (.iload_n 3, 1) := by decide +kernel
theorem dX9_pair_104 : decode cX9_pair 104 = .ok (.iadd, 1) := by decide +kernel
theorem dX9_pair_105 : decode cX9_pair 105 = .ok (.ireturn, 1) := by decide +kernel
theorem dX9_pair_106 : decode cX9_pair 106 = .ok (.iinc 3 1, 3) := by decide +kernel
theorem dX9_pair_109 : decode cX9_pair 109 = .ok (.goto (-81), 3) := by decide +kernel
theorem dX9_pair_112 : decode cX9_pair 112 = .ok (.iinc 2 1, 3) := by decide +kernel
theorem dX9_pair_115 : decode cX9_pair 115 = .ok (.goto (-101), 3) := by decide +kernel
theorem dX9_pair_118 : decode cX9_pair 118 = .ok (.bipush (-4), 2) := by decide +kernel
theorem dX9_pair_120 : decode cX9_pair 120 = .ok (.ireturn, 1) := by decide +kernel
def f_M_pair_69 (N nx : Nat) (rec14 : Int32 → Option Int32) (rec28 : Int32 → Option Int32) (D : Dt) (P : Ft) (a0 : Nat) (i1 : Int32) (i2 : Int32) (i3 : Int32) (s0 : Int32) : Option Int32 :=
  if s0 = 0 then
    rec28 (i3 + 1)
  else
    nn (P a0 11) fun q8 =>
    if ab nx q8 3 (10 + i2) = true then
    if ab nx q8 3 (10 + i3) = true then
    if (D q8 (10 + i2).toNatClampNeg) + (D q8 (10 + i3).toNatClampNeg) = i1 then
      some ((10 * i2) + i3)
    else
      rec28 (i3 + 1)
    else none
    else none
def f_M_pair_28 (N nx : Nat) (rec14 : Int32 → Option Int32) (D : Dt) (P : Ft) (a0 : Nat) (i1 : Int32) (i2 : Int32) (rec28 : Int32 → Option Int32) (i3 : Int32) : Option Int32 :=
  nn (P a0 3) fun q4 =>
  if ab nx q4 3 0 = true then
  if D q4 (0 : Int32).toNatClampNeg ≤ i3 then
    rec14 (i2 + 1)
  else
    nn (P a0 11) fun q6 =>
    if ab nx q6 3 (2 + i2) = true then
    if 6 ≤ D q6 (2 + i2).toNatClampNeg then
      f_M_pair_69 N nx rec14 rec28 D P a0 i1 i2 i3 0
    else
      if ab nx q6 3 (2 + i3) = true then
      if 6 ≤ D q6 (2 + i3).toNatClampNeg then
        f_M_pair_69 N nx rec14 rec28 D P a0 i1 i2 i3 0
      else
        f_M_pair_69 N nx rec14 rec28 D P a0 i1 i2 i3 1
      else none
    else none
  else none
def f_M_pair_14 (N nx : Nat) (D : Dt) (P : Ft) (a0 : Nat) (i1 : Int32) (rec14 : Int32 → Option Int32) (i2 : Int32) : Option Int32 :=
  nn (P a0 3) fun q2 =>
  if ab nx q2 3 0 = true then
  if D q2 (0 : Int32).toNatClampNeg ≤ i2 then
    some (-4)
  else
    wk1 N (f_M_pair_28 N nx rec14 D P a0 i1 i2) (i2 + 1)
  else none
def f_M_pair (N nx : Nat) (D : Dt) (P : Ft) (a0 : Nat) (i1 : Int32) : Option Int32 :=
  if kd nx a0 = 9 then
  (f_M_in N nx D P i1 2 80).bind fun z1 =>
  if z1 = 0 then
    some (-1)
  else
    wk1 N (f_M_pair_14 N nx D P a0 i1) 0
  else none
theorem m_M_pair : MV yX9_pair cX9_pair 5 (some .int) 1 := ⟨mT 1167 (by decide +kernel) rfl, mT 1165 (by decide +kernel) rfl, mT 1166 (by decide +kernel) rfl, mT 68 (by decide +kernel) rfl, by decide +kernel, by decide +kernel, by decide +kernel⟩
set_option maxHeartbeats 4000000 in
set_option maxRecDepth 100000 in
theorem c_M_pair (l : Launch) (cx : Cx) (nx N : Nat) (D : Dt) (P : Ft) (a0 : Nat) (i1 : Int32) (z : Int32) (h : f_M_pair N nx D P a0 i1 = some z) : Ct l cx yX9_pair cX9_pair 5 (some .int) 1 [.ref (cx.2.2 + a0), .int i1] D P nx (some (.int z)) D P := by
  refine x_met0 (by decide) (Nat.le_of_ble_eq_true rfl) ?_
  intro p e s m args below meth c X
  have X : XC p s m args meth c cx cX9_pair 5 (some .int) "HeartPinsModel" "pair" := X
  refine XW.sub (lv' := [(0, .ref (cx.2.2 + a0)), (1, .int i1)]) [0, 1] rfl ?_
  unfold f_M_pair at h
  obtain ⟨hk0, h⟩ := grd h
  have hL14 : ∀ (n : Nat) (i2 : Int32), wk1 n (f_M_pair_14 N nx D P a0 i1) i2 = some z → XW p l e (rmk 1) s m args below meth c (MQ below (Qx cx (some (.int z)) D P nx) args s 0 0 (AA cx)) cx 5 D P nx 0 0 14 [(0, .ref (cx.2.2 + a0)), (1, .int i1), (2, .int i2)] [] := by
    intro n
    induction n with
    | zero => intro i2 h; exact (nonz h).elim
    | succ n ih14 =>
      intro i2 h
      have h : f_M_pair_14 N nx D P a0 i1 (wk1 n (f_M_pair_14 N nx D P a0 i1)) i2 = some z := h
      generalize wk1 n (f_M_pair_14 N nx D P a0 i1) = rec14 at ih14 h
      unfold f_M_pair_14 at h
      have hL28 : ∀ (i2 : Int32) (n : Nat) (i3 : Int32), wk1 n (f_M_pair_28 N nx rec14 D P a0 i1 i2) i3 = some z → XW p l e (rmk 1) s m args below meth c (MQ below (Qx cx (some (.int z)) D P nx) args s 0 0 (AA cx)) cx 5 D P nx 0 0 28 [(0, .ref (cx.2.2 + a0)), (1, .int i1), (2, .int i2), (3, .int i3)] [] := by
        intro i2 n
        induction n with
        | zero => intro i3 h; exact (nonz h).elim
        | succ n ih28 =>
          intro i3 h
          have h : f_M_pair_28 N nx rec14 D P a0 i1 i2 (wk1 n (f_M_pair_28 N nx rec14 D P a0 i1 i2)) i3 = some z := h
          generalize wk1 n (f_M_pair_28 N nx rec14 D P a0 i1 i2) = rec28 at ih28 h
          unfold f_M_pair_28 at h
          have hJ69 : ∀ (i3 : Int32) (s0 : Int32), f_M_pair_69 N nx rec14 rec28 D P a0 i1 i2 i3 s0 = some z → XW p l e (rmk 1) s m args below meth c (MQ below (Qx cx (some (.int z)) D P nx) args s 0 0 (AA cx)) cx 5 D P nx 0 0 69 [(0, .ref (cx.2.2 + a0)), (1, .int i1), (2, .int i2), (3, .int i3)] [.int s0] := by
            intro i3 s0 h
            unfold f_M_pair_69 at h
            refine x_istore (lv' := [(4, .int s0), (0, .ref (cx.2.2 + a0)), (1, .int i1), (2, .int i2), (3, .int i3)]) (pc := 69) X dX9_pair_69 (by decide) rfl ?_
            refine x_iload (pc := 71) X dX9_pair_71 0 rfl ?_
            refine x_if_eq (tgt := 106) (pc := 73) X dX9_pair_73 (by decide) (fun c12 => ?_) (fun c12 => ?_)
            · have h := ite_t c12 h
              refine x_iinc (v := i3 + 1) (lv' := [(3, .int (i3 + 1)), (4, .int s0), (0, .ref (cx.2.2 + a0)), (1, .int i1), (2, .int i2)]) (pc := 106) X dX9_pair_106 4 rfl rfl (by decide) rfl ?_
              refine x_goto (tgt := 28) (pc := 109) X dX9_pair_109 (by decide) ?_
              exact XW.sub [2, 3, 4, 0] rfl (ih28 _ h)
            · have h := ite_f c12 h
              refine x_aload_n (pc := 76) X dX9_pair_76 (i := 0) rfl 1 rfl ?_
              obtain ⟨q8, e8, h⟩ := nns h
              refine x_getr (ci := 9) (k := 11) (n := 26) (C := RX9) (T := TX9) (pc := 77) X dX9_pair_77 hk0 rfl (by decide) w_900 rfl e8 ?_
              refine x_bipush (v := 10) (pc := 80) X dX9_pair_80 (by decide) ?_
              refine x_iload_n (pc := 82) X dX9_pair_82 (i := 2) rfl 3 rfl ?_
              refine x_iadd (pc := 83) X dX9_pair_83 ?_
              obtain ⟨g9, h⟩ := grd h
              refine x_iald (pc := 84) X dX9_pair_84 g9 ?_
              refine x_aload_n (pc := 85) X dX9_pair_85 (i := 0) rfl 1 rfl ?_
              refine x_getr (ci := 9) (k := 11) (n := 26) (C := RX9) (T := TX9) (pc := 86) X dX9_pair_86 hk0 rfl (by decide) w_900 rfl e8 ?_
              refine x_bipush (v := 10) (pc := 89) X dX9_pair_89 (by decide) ?_
              refine x_iload_n (pc := 91) X dX9_pair_91 (i := 3) rfl 4 rfl ?_
              refine x_iadd (pc := 92) X dX9_pair_92 ?_
              obtain ⟨g10, h⟩ := grd h
              refine x_iald (pc := 93) X dX9_pair_93 g10 ?_
              refine x_iadd (pc := 94) X dX9_pair_94 ?_
              refine x_iload_n (pc := 95) X dX9_pair_95 (i := 1) rfl 2 rfl ?_
              refine x_icmp_ne (tgt := 106) (pc := 96) X dX9_pair_96 (by decide) (fun c11 => ?_) (fun c11 => ?_)
              · have h := ite_f c11 h
                refine x_iinc (v := i3 + 1) (lv' := [(3, .int (i3 + 1)), (4, .int s0), (0, .ref (cx.2.2 + a0)), (1, .int i1), (2, .int i2)]) (pc := 106) X dX9_pair_106 4 rfl rfl (by decide) rfl ?_
                refine x_goto (tgt := 28) (pc := 109) X dX9_pair_109 (by decide) ?_
                exact XW.sub [2, 3, 4, 0] rfl (ih28 _ h)
              · have h := ite_t c11 h
                refine x_bipush (v := 10) (pc := 99) X dX9_pair_99 (by decide) ?_
                refine x_iload_n (pc := 101) X dX9_pair_101 (i := 2) rfl 3 rfl ?_
                refine x_imul (pc := 102) X dX9_pair_102 ?_
                refine x_iload_n (pc := 103) X dX9_pair_103 (i := 3) rfl 4 rfl ?_
                refine x_iadd (pc := 104) X dX9_pair_104 ?_
                obtain rfl := Option.some.inj h
                exact x_iret (pc := 105) X dX9_pair_105
          refine x_iload_n (pc := 28) X dX9_pair_28 (i := 3) rfl 3 rfl ?_
          refine x_aload_n (pc := 29) X dX9_pair_29 (i := 0) rfl 0 rfl ?_
          obtain ⟨q4, e4, h⟩ := nns h
          refine x_getr (ci := 9) (k := 3) (n := 26) (C := RX9) (T := TX9) (pc := 30) X dX9_pair_30 hk0 rfl (by decide) w_892 rfl e4 ?_
          refine x_iconst (v := 0) (pc := 33) X dX9_pair_33 (by decide) ?_
          obtain ⟨g5, h⟩ := grd h
          refine x_iald (pc := 34) X dX9_pair_34 g5 ?_
          refine x_icmp_ge (tgt := 112) (pc := 35) X dX9_pair_35 (by decide) (fun c16 => ?_) (fun c16 => ?_)
          · have h := ite_t c16 h
            refine x_iinc (v := i2 + 1) (lv' := [(2, .int (i2 + 1)), (0, .ref (cx.2.2 + a0)), (1, .int i1), (3, .int i3)]) (pc := 112) X dX9_pair_112 2 rfl rfl (by decide) rfl ?_
            refine x_goto (tgt := 14) (pc := 115) X dX9_pair_115 (by decide) ?_
            exact XW.sub [1, 2, 0] rfl (ih14 _ h)
          · have h := ite_f c16 h
            refine x_aload_n (pc := 38) X dX9_pair_38 (i := 0) rfl 0 rfl ?_
            obtain ⟨q6, e6, h⟩ := nns h
            refine x_getr (ci := 9) (k := 11) (n := 26) (C := RX9) (T := TX9) (pc := 39) X dX9_pair_39 hk0 rfl (by decide) w_900 rfl e6 ?_
            refine x_iconst (v := 2) (pc := 42) X dX9_pair_42 (by decide) ?_
            refine x_iload_n (pc := 43) X dX9_pair_43 (i := 2) rfl 2 rfl ?_
            refine x_iadd (pc := 44) X dX9_pair_44 ?_
            obtain ⟨g7, h⟩ := grd h
            refine x_iald (pc := 45) X dX9_pair_45 g7 ?_
            refine x_bipush (v := 6) (pc := 46) X dX9_pair_46 (by decide) ?_
            refine x_icmp_ge (tgt := 68) (pc := 48) X dX9_pair_48 (by decide) (fun c15 => ?_) (fun c15 => ?_)
            · have h := ite_t c15 h
              refine x_iconst (v := 0) (pc := 68) X dX9_pair_68 (by decide) ?_
              exact XW.sub [0, 1, 2, 3] rfl (hJ69 _ _ h)
            · have h := ite_f c15 h
              refine x_aload_n (pc := 51) X dX9_pair_51 (i := 0) rfl 0 rfl ?_
              refine x_getr (ci := 9) (k := 11) (n := 26) (C := RX9) (T := TX9) (pc := 52) X dX9_pair_52 hk0 rfl (by decide) w_900 rfl e6 ?_
              refine x_iconst (v := 2) (pc := 55) X dX9_pair_55 (by decide) ?_
              refine x_iload_n (pc := 56) X dX9_pair_56 (i := 3) rfl 3 rfl ?_
              refine x_iadd (pc := 57) X dX9_pair_57 ?_
              obtain ⟨g13, h⟩ := grd h
              refine x_iald (pc := 58) X dX9_pair_58 g13 ?_
              refine x_bipush (v := 6) (pc := 59) X dX9_pair_59 (by decide) ?_
              refine x_icmp_ge (tgt := 68) (pc := 61) X dX9_pair_61 (by decide) (fun c14 => ?_) (fun c14 => ?_)
              · have h := ite_t c14 h
                refine x_iconst (v := 0) (pc := 68) X dX9_pair_68 (by decide) ?_
                exact XW.sub [0, 1, 2, 3] rfl (hJ69 _ _ h)
              · have h := ite_f c14 h
                refine x_iconst (v := 1) (pc := 64) X dX9_pair_64 (by decide) ?_
                refine x_goto (tgt := 69) (pc := 65) X dX9_pair_65 (by decide) ?_
                exact XW.sub [0, 1, 2, 3] rfl (hJ69 _ _ h)
      refine x_iload_n (pc := 14) X dX9_pair_14 (i := 2) rfl 2 rfl ?_
      refine x_aload_n (pc := 15) X dX9_pair_15 (i := 0) rfl 0 rfl ?_
      obtain ⟨q2, e2, h⟩ := nns h
      refine x_getr (ci := 9) (k := 3) (n := 26) (C := RX9) (T := TX9) (pc := 16) X dX9_pair_16 hk0 rfl (by decide) w_892 rfl e2 ?_
      refine x_iconst (v := 0) (pc := 19) X dX9_pair_19 (by decide) ?_
      obtain ⟨g3, h⟩ := grd h
      refine x_iald (pc := 20) X dX9_pair_20 g3 ?_
      refine x_icmp_ge (tgt := 118) (pc := 21) X dX9_pair_21 (by decide) (fun c17 => ?_) (fun c17 => ?_)
      · have h := ite_t c17 h
        refine x_bipush (v := (-4)) (pc := 118) X dX9_pair_118 (by decide) ?_
        obtain rfl := Option.some.inj h
        exact x_iret (pc := 120) X dX9_pair_120
      · have h := ite_f c17 h
        refine x_iload_n (pc := 24) X dX9_pair_24 (i := 2) rfl 2 rfl ?_
        refine x_iconst (v := 1) (pc := 25) X dX9_pair_25 (by decide) ?_
        refine x_iadd (pc := 26) X dX9_pair_26 ?_
        refine x_istore_n (lv' := [(3, .int (i2 + 1)), (0, .ref (cx.2.2 + a0)), (1, .int i1), (2, .int i2)]) (pc := 27) X dX9_pair_27 (i := 3) rfl (by decide) rfl ?_
        exact XW.sub [1, 2, 3, 0] rfl (hL28 _ _ _ h)
  refine x_iload_n (pc := 0) X dX9_pair_0 (i := 1) rfl 1 rfl ?_
  refine x_iconst (v := 2) (pc := 1) X dX9_pair_1 (by decide) ?_
  refine x_bipush (v := 80) (pc := 2) X dX9_pair_2 (by decide) ?_
  obtain ⟨z1, e1, h⟩ := bnds h
  refine x_callS (pc := 4) (As := [.int i1, .int 2, .int 80]) (st := []) (st' := [.int z1]) X (c_M_in l cx nx N D P _ _ _ z1 e1) dX9_pair_4 w_972 m_M_in rfl ⟨by decide, by decide⟩ ⟨Nat.zero_le _, Nat.zero_le _⟩ rfl (Nat.le_of_ble_eq_true rfl) rfl ?_
  refine x_if_ne (tgt := 12) (pc := 7) X dX9_pair_7 (by decide) (fun c18 => ?_) (fun c18 => ?_)
  · have h := ite_f c18 h
    refine x_iconst (v := 0) (pc := 12) X dX9_pair_12 (by decide) ?_
    refine x_istore_n (lv' := [(2, .int 0), (0, .ref (cx.2.2 + a0)), (1, .int i1)]) (pc := 13) X dX9_pair_13 (i := 2) rfl (by decide) rfl ?_
    exact XW.sub [1, 2, 0] rfl (hL14 _ _ h)
  · have h := ite_t c18 h
    refine x_iconst (v := (-1)) (pc := 10) X dX9_pair_10 (by decide) ?_
    obtain rfl := Option.some.inj h
    exact x_iret (pc := 11) X dX9_pair_11
theorem dX9_see_0 : decode cX9_see 0 = .ok (.aload_n 0, 1) := by decide +kernel
theorem dX9_see_1 : decode cX9_see 1 = .ok (.iload_n 1, 1) := by decide +kernel
theorem dX9_see_2 : decode cX9_see 2 = .ok (.invokevirtual 178, 3) := by decide +kernel
theorem dX9_see_5 : decode cX9_see 5 = .ok (.ifCond .eq 23, 3) := by decide +kernel
theorem dX9_see_8 : decode cX9_see 8 = .ok (.iload_n 2, 1) := by decide +kernel
theorem dX9_see_9 : decode cX9_see 9 = .ok (.iconst 0, 1) := by decide +kernel
theorem dX9_see_10 : decode cX9_see 10 = .ok (.bipush 20, 2) := by decide +kernel
theorem dX9_see_12 : decode cX9_see 12 = .ok (.invokestatic 74, 3) := by decide +kernel
theorem dX9_see_15 : decode cX9_see 15 = .ok (.ifCond .eq 13, 3) := by decide +kernel
theorem dX9_see_18 : decode cX9_see 18 = .ok (.iload_n 3, 1) := by decide +kernel
theorem dX9_see_19 : decode cX9_see 19 = .ok (.iconst 0, 1) := by decide +kernel
theorem dX9_see_20 : decode cX9_see 20 = .ok (.bipush 40, 2) := by decide +kernel
theorem dX9_see_22 : decode cX9_see 22 = .ok (.invokestatic 74, 3) := by decide +kernel
theorem dX9_see_25 : decode cX9_see 25 = .ok (.ifCond .ne 5, 3) := by decide +kernel
theorem dX9_see_28 : decode cX9_see 28 = .ok (.iconst (-1), 1) := by decide +kernel
theorem dX9_see_29 : decode cX9_see 29 = .ok (.ireturn, 1) := by decide +kernel
theorem dX9_see_30 : decode cX9_see 30 = .ok (.aload_n 0, 1) := by decide +kernel
theorem dX9_see_31 : decode cX9_see 31 = .ok (.getfield 139, 3) := by decide +kernel
theorem dX9_see_34 : decode cX9_see 34 = .ok (.bipush 8, 2) := by decide +kernel
theorem dX9_see_36 : decode cX9_see 36 = .ok (.if_icmp .ne 6, 3) := by decide +kernel
theorem dX9_see_39 : decode cX9_see 39 = .ok (.bipush (-3), 2) := by decide +kernel
theorem dX9_see_41 : decode cX9_see 41 = .ok (.ireturn, 1) := by decide +kernel
theorem dX9_see_42 : decode cX9_see 42 = .ok (.aload_n 0, 1) := by decide +kernel
theorem dX9_see_43 : decode cX9_see 43 = .ok (.getfield 53, 3) := by decide +kernel
theorem dX9_see_46 : decode cX9_see 46 = .ok (.aload_n 0, 1) := by decide +kernel
theorem dX9_see_47 : decode cX9_see 47 = .ok (.getfield 139, 3) := by decide +kernel
theorem dX9_see_50 : decode cX9_see 50 = .ok (.iload_n 1, 1) := by decide +kernel
theorem dX9_see_51 : decode cX9_see 51 = .ok (.iastore, 1) := by decide +kernel
theorem dX9_see_52 : decode cX9_see 52 = .ok (.aload_n 0, 1) := by decide +kernel
theorem dX9_see_53 : decode cX9_see 53 = .ok (.getfield 56, 3) := by decide +kernel
theorem dX9_see_56 : decode cX9_see 56 = .ok (.aload_n 0, 1) := by decide +kernel
theorem dX9_see_57 : decode cX9_see 57 = .ok (.getfield 139, 3) := by decide +kernel
theorem dX9_see_60 : decode cX9_see 60 = .ok (.iload_n 2, 1) := by decide +kernel
theorem dX9_see_61 : decode cX9_see 61 = .ok (.iastore, 1) := by decide +kernel
theorem dX9_see_62 : decode cX9_see 62 = .ok (.aload_n 0, 1) := by decide +kernel
theorem dX9_see_63 : decode cX9_see 63 = .ok (.getfield 59, 3) := by decide +kernel
theorem dX9_see_66 : decode cX9_see 66 = .ok (.aload_n 0, 1) := by decide +kernel
theorem dX9_see_67 : decode cX9_see 67 = .ok (.getfield 139, 3) := by decide +kernel
theorem dX9_see_70 : decode cX9_see 70 = .ok (.iload_n 3, 1) := by decide +kernel
theorem dX9_see_71 : decode cX9_see 71 = .ok (.iastore, 1) := by decide +kernel
theorem dX9_see_72 : decode cX9_see 72 = .ok (.aload_n 0, 1) := by decide +kernel
theorem dX9_see_73 : decode cX9_see 73 = .ok (.dup, 1) := by decide +kernel
theorem dX9_see_74 : decode cX9_see 74 = .ok (.getfield 139, 3) := by decide +kernel
theorem dX9_see_77 : decode cX9_see 77 = .ok (.iconst 1, 1) := by decide +kernel
theorem dX9_see_78 : decode cX9_see 78 = .ok (.iadd, 1) := by decide +kernel
theorem dX9_see_79 : decode cX9_see 79 = .ok (.putfield 139, 3) := by decide +kernel
theorem dX9_see_82 : decode cX9_see 82 = .ok (.aload_n 0, 1) := by decide +kernel
theorem dX9_see_83 : decode cX9_see 83 = .ok (.getfield 139, 3) := by decide +kernel
theorem dX9_see_86 : decode cX9_see 86 = .ok (.ireturn, 1) := by decide +kernel
def f_M_see (N nx : Nat) (D : Dt) (P : Ft) (a0 : Nat) (i1 : Int32) (i2 : Int32) (i3 : Int32) : Option (Int32 × Dt) :=
  if kd nx a0 = 9 then
  (f_M_isPin N nx D P a0 i1).bind fun z1 =>
  if z1 = 0 then
    some ((-1), D)
  else
    (f_M_in N nx D P i2 0 20).bind fun z2 =>
    if z2 = 0 then
      some ((-1), D)
    else
      (f_M_in N nx D P i3 0 40).bind fun z3 =>
      if z3 = 0 then
        some ((-1), D)
      else
        if D a0 22 = 8 then
          some ((-3), D)
        else
          nn (P a0 19) fun q4 =>
          if ab nx q4 3 (D a0 22) = true then
          pas (upd2 D q4 (D a0 22).toNatClampNeg i1) fun D5 =>
          nn (P a0 20) fun q6 =>
          if ab nx q6 3 (D5 a0 22) = true then
          pas (upd2 D5 q6 (D5 a0 22).toNatClampNeg i2) fun D7 =>
          nn (P a0 21) fun q8 =>
          if ab nx q8 3 (D7 a0 22) = true then
          pas (upd2 D7 q8 (D7 a0 22).toNatClampNeg i3) fun D9 =>
          pas (upd2 D9 a0 22 ((D9 a0 22) + 1)) fun D10 =>
          some (D10 a0 22, D10)
          else none
          else none
          else none
  else none
theorem m_M_see : MV yX9_see cX9_see 4 (some .int) 3 := ⟨mT 1171 (by decide +kernel) rfl, mT 1169 (by decide +kernel) rfl, mT 1170 (by decide +kernel) rfl, mT 68 (by decide +kernel) rfl, by decide +kernel, by decide +kernel, by decide +kernel⟩
set_option maxHeartbeats 4000000 in
set_option maxRecDepth 100000 in
theorem c_M_see (l : Launch) (cx : Cx) (nx N : Nat) (D : Dt) (P : Ft) (a0 : Nat) (i1 : Int32) (i2 : Int32) (i3 : Int32) (z : Int32 × Dt) (h : f_M_see N nx D P a0 i1 i2 i3 = some z) : Ct l cx yX9_see cX9_see 4 (some .int) 2 [.ref (cx.2.2 + a0), .int i1, .int i2, .int i3] D P nx (some (.int z.1)) z.2 P := by
  refine x_met0 (by decide) (Nat.le_of_ble_eq_true rfl) ?_
  intro p e s m args below meth c X
  have X : XC p s m args meth c cx cX9_see 4 (some .int) "HeartPinsModel" "see" := X
  refine XW.sub (lv' := [(0, .ref (cx.2.2 + a0)), (1, .int i1), (2, .int i2), (3, .int i3)]) [0, 1, 2, 3] rfl ?_
  unfold f_M_see at h
  obtain ⟨hk0, h⟩ := grd h
  refine x_aload_n (pc := 0) X dX9_see_0 (i := 0) rfl 0 rfl ?_
  refine x_iload_n (pc := 1) X dX9_see_1 (i := 1) rfl 1 rfl ?_
  obtain ⟨z1, e1, h⟩ := bnds h
  refine x_callV (pc := 2) (As := [.int i1]) (st := []) (st' := [.int z1]) X (c_M_isPin l cx nx N D P _ _ z1 e1) dX9_see_2 w_1054 m_M_isPin rfl hk0 (ci := 9) rfl rfl ⟨by decide, by decide⟩ ⟨Nat.zero_le _, Nat.zero_le _⟩ rfl (Nat.le_of_ble_eq_true rfl) rfl ?_
  refine x_if_eq (tgt := 28) (pc := 5) X dX9_see_5 (by decide) (fun c14 => ?_) (fun c14 => ?_)
  · have h := ite_t c14 h
    refine x_iconst (v := (-1)) (pc := 28) X dX9_see_28 (by decide) ?_
    obtain rfl := Option.some.inj h
    exact x_iret (pc := 29) X dX9_see_29
  · have h := ite_f c14 h
    refine x_iload_n (pc := 8) X dX9_see_8 (i := 2) rfl 2 rfl ?_
    refine x_iconst (v := 0) (pc := 9) X dX9_see_9 (by decide) ?_
    refine x_bipush (v := 20) (pc := 10) X dX9_see_10 (by decide) ?_
    obtain ⟨z2, e2, h⟩ := bnds h
    refine x_callS (pc := 12) (As := [.int i2, .int 0, .int 20]) (st := []) (st' := [.int z2]) X (c_M_in l cx nx N D P _ _ _ z2 e2) dX9_see_12 w_972 m_M_in rfl ⟨by decide, by decide⟩ ⟨Nat.zero_le _, Nat.zero_le _⟩ rfl (Nat.le_of_ble_eq_true rfl) rfl ?_
    refine x_if_eq (tgt := 28) (pc := 15) X dX9_see_15 (by decide) (fun c13 => ?_) (fun c13 => ?_)
    · have h := ite_t c13 h
      refine x_iconst (v := (-1)) (pc := 28) X dX9_see_28 (by decide) ?_
      obtain rfl := Option.some.inj h
      exact x_iret (pc := 29) X dX9_see_29
    · have h := ite_f c13 h
      refine x_iload_n (pc := 18) X dX9_see_18 (i := 3) rfl 3 rfl ?_
      refine x_iconst (v := 0) (pc := 19) X dX9_see_19 (by decide) ?_
      refine x_bipush (v := 40) (pc := 20) X dX9_see_20 (by decide) ?_
      obtain ⟨z3, e3, h⟩ := bnds h
      refine x_callS (pc := 22) (As := [.int i3, .int 0, .int 40]) (st := []) (st' := [.int z3]) X (c_M_in l cx nx N D P _ _ _ z3 e3) dX9_see_22 w_972 m_M_in rfl ⟨by decide, by decide⟩ ⟨Nat.zero_le _, Nat.zero_le _⟩ rfl (Nat.le_of_ble_eq_true rfl) rfl ?_
      refine x_if_ne (tgt := 30) (pc := 25) X dX9_see_25 (by decide) (fun c12 => ?_) (fun c12 => ?_)
      · have h := ite_f c12 h
        refine x_aload_n (pc := 30) X dX9_see_30 (i := 0) rfl 0 rfl ?_
        refine x_geti (ci := 9) (k := 22) (n := 26) (C := RX9) (T := TX9) (pc := 31) X dX9_see_31 hk0 rfl (by decide) w_911 rfl ?_
        refine x_bipush (v := 8) (pc := 34) X dX9_see_34 (by decide) ?_
        refine x_icmp_ne (tgt := 42) (pc := 36) X dX9_see_36 (by decide) (fun c11 => ?_) (fun c11 => ?_)
        · have h := ite_f c11 h
          refine x_aload_n (pc := 42) X dX9_see_42 (i := 0) rfl 0 rfl ?_
          obtain ⟨q4, e4, h⟩ := nns h
          refine x_getr (ci := 9) (k := 19) (n := 26) (C := RX9) (T := TX9) (pc := 43) X dX9_see_43 hk0 rfl (by decide) w_908 rfl e4 ?_
          refine x_aload_n (pc := 46) X dX9_see_46 (i := 0) rfl 0 rfl ?_
          refine x_geti (ci := 9) (k := 22) (n := 26) (C := RX9) (T := TX9) (pc := 47) X dX9_see_47 hk0 rfl (by decide) w_911 rfl ?_
          refine x_iload_n (pc := 50) X dX9_see_50 (i := 1) rfl 1 rfl ?_
          obtain ⟨g5, h⟩ := grd h
          obtain ⟨D5, w5, h⟩ := pass h
          refine x_iast (D' := D5) (pc := 51) X dX9_see_51 g5 w5 ?_
          refine x_aload_n (pc := 52) X dX9_see_52 (i := 0) rfl 0 rfl ?_
          obtain ⟨q6, e6, h⟩ := nns h
          refine x_getr (ci := 9) (k := 20) (n := 26) (C := RX9) (T := TX9) (pc := 53) X dX9_see_53 hk0 rfl (by decide) w_909 rfl e6 ?_
          refine x_aload_n (pc := 56) X dX9_see_56 (i := 0) rfl 0 rfl ?_
          refine x_geti (ci := 9) (k := 22) (n := 26) (C := RX9) (T := TX9) (pc := 57) X dX9_see_57 hk0 rfl (by decide) w_911 rfl ?_
          refine x_iload_n (pc := 60) X dX9_see_60 (i := 2) rfl 2 rfl ?_
          obtain ⟨g7, h⟩ := grd h
          obtain ⟨D7, w7, h⟩ := pass h
          refine x_iast (D' := D7) (pc := 61) X dX9_see_61 g7 w7 ?_
          refine x_aload_n (pc := 62) X dX9_see_62 (i := 0) rfl 0 rfl ?_
          obtain ⟨q8, e8, h⟩ := nns h
          refine x_getr (ci := 9) (k := 21) (n := 26) (C := RX9) (T := TX9) (pc := 63) X dX9_see_63 hk0 rfl (by decide) w_910 rfl e8 ?_
          refine x_aload_n (pc := 66) X dX9_see_66 (i := 0) rfl 0 rfl ?_
          refine x_geti (ci := 9) (k := 22) (n := 26) (C := RX9) (T := TX9) (pc := 67) X dX9_see_67 hk0 rfl (by decide) w_911 rfl ?_
          refine x_iload_n (pc := 70) X dX9_see_70 (i := 3) rfl 3 rfl ?_
          obtain ⟨g9, h⟩ := grd h
          obtain ⟨D9, w9, h⟩ := pass h
          refine x_iast (D' := D9) (pc := 71) X dX9_see_71 g9 w9 ?_
          refine x_aload_n (pc := 72) X dX9_see_72 (i := 0) rfl 0 rfl ?_
          refine x_dup (pc := 73) X dX9_see_73 rfl ?_
          refine x_geti (ci := 9) (k := 22) (n := 26) (C := RX9) (T := TX9) (pc := 74) X dX9_see_74 hk0 rfl (by decide) w_911 rfl ?_
          refine x_iconst (v := 1) (pc := 77) X dX9_see_77 (by decide) ?_
          refine x_iadd (pc := 78) X dX9_see_78 ?_
          obtain ⟨D10, w10, h⟩ := pass h
          refine x_puti (ci := 9) (k := 22) (n := 26) (C := RX9) (T := TX9) (D' := D10) (pc := 79) X dX9_see_79 hk0 rfl (by decide) w_911 rfl (by decide +kernel) rfl w10 ?_
          refine x_aload_n (pc := 82) X dX9_see_82 (i := 0) rfl 0 rfl ?_
          refine x_geti (ci := 9) (k := 22) (n := 26) (C := RX9) (T := TX9) (pc := 83) X dX9_see_83 hk0 rfl (by decide) w_911 rfl ?_
          obtain rfl := Option.some.inj h
          exact x_iret (pc := 86) X dX9_see_86
        · have h := ite_t c11 h
          refine x_bipush (v := (-3)) (pc := 39) X dX9_see_39 (by decide) ?_
          obtain rfl := Option.some.inj h
          exact x_iret (pc := 41) X dX9_see_41
      · have h := ite_t c12 h
        refine x_iconst (v := (-1)) (pc := 28) X dX9_see_28 (by decide) ?_
        obtain rfl := Option.some.inj h
        exact x_iret (pc := 29) X dX9_see_29
theorem dX9_mark_0 : decode cX9_mark 0 = .ok (.iload_n 1, 1) := by decide +kernel
theorem dX9_mark_1 : decode cX9_mark 1 = .ok (.iconst 0, 1) := by decide +kernel
theorem dX9_mark_2 : decode cX9_mark 2 = .ok (.bipush 40, 2) := by decide +kernel
theorem dX9_mark_4 : decode cX9_mark 4 = .ok (.invokestatic 74, 3) := by decide +kernel
theorem dX9_mark_7 : decode cX9_mark 7 = .ok (.ifCond .ne 5, 3) := by decide +kernel
theorem dX9_mark_10 : decode cX9_mark 10 = .ok (.iconst (-1), 1) := by decide +kernel
theorem dX9_mark_11 : decode cX9_mark 11 = .ok (.ireturn, 1) := by decide +kernel
theorem dX9_mark_12 : decode cX9_mark 12 = .ok (.aload_n 0, 1) := by decide +kernel
theorem dX9_mark_13 : decode cX9_mark 13 = .ok (.getfield 142, 3) := by decide +kernel
theorem dX9_mark_16 : decode cX9_mark 16 = .ok (.bipush 8, 2) := by decide +kernel
theorem dX9_mark_18 : decode cX9_mark 18 = .ok (.if_icmp .ne 6, 3) := by decide +kernel
theorem dX9_mark_21 : decode cX9_mark 21 = .ok (.bipush (-3), 2) := by decide +kernel
theorem dX9_mark_23 : decode cX9_mark 23 = .ok (.ireturn, 1) := by decide +kernel
theorem dX9_mark_24 : decode cX9_mark 24 = .ok (.aload_n 0, 1) := by decide +kernel
theorem dX9_mark_25 : decode cX9_mark 25 = .ok (.getfield 62, 3) := by decide +kernel
theorem dX9_mark_28 : decode cX9_mark 28 = .ok (.aload_n 0, 1) := by decide +kernel
theorem dX9_mark_29 : decode cX9_mark 29 = .ok (.getfield 142, 3) := by decide +kernel
theorem dX9_mark_32 : decode cX9_mark 32 = .ok (.iload_n 1, 1) := by decide +kernel
theorem dX9_mark_33 : decode cX9_mark 33 = .ok (.iastore, 1) := by decide +kernel
theorem dX9_mark_34 : decode cX9_mark 34 = .ok (.aload_n 0, 1) := by decide +kernel
theorem dX9_mark_35 : decode cX9_mark 35 = .ok (.dup, 1) := by decide +kernel
theorem dX9_mark_36 : decode cX9_mark 36 = .ok (.getfield 142, 3) := by decide +kernel
theorem dX9_mark_39 : decode cX9_mark 39 = .ok (.iconst 1, 1) := by decide +kernel
theorem dX9_mark_40 : decode cX9_mark 40 = .ok (.iadd, 1) := by decide +kernel
theorem dX9_mark_41 : decode cX9_mark 41 = .ok (.putfield 142, 3) := by decide +kernel
theorem dX9_mark_44 : decode cX9_mark 44 = .ok (.aload_n 0, 1) := by decide +kernel
theorem dX9_mark_45 : decode cX9_mark 45 = .ok (.getfield 142, 3) := by decide +kernel
theorem dX9_mark_48 : decode cX9_mark 48 = .ok (.ireturn, 1) := by decide +kernel
def f_M_mark (N nx : Nat) (D : Dt) (P : Ft) (a0 : Nat) (i1 : Int32) : Option (Int32 × Dt) :=
  if kd nx a0 = 9 then
  (f_M_in N nx D P i1 0 40).bind fun z1 =>
  if z1 = 0 then
    some ((-1), D)
  else
    if D a0 24 = 8 then
      some ((-3), D)
    else
      nn (P a0 23) fun q2 =>
      if ab nx q2 3 (D a0 24) = true then
      pas (upd2 D q2 (D a0 24).toNatClampNeg i1) fun D3 =>
      pas (upd2 D3 a0 24 ((D3 a0 24) + 1)) fun D4 =>
      some (D4 a0 24, D4)
      else none
  else none
theorem m_M_mark : MV yX9_mark cX9_mark 2 (some .int) 1 := ⟨mT 1175 (by decide +kernel) rfl, mT 1173 (by decide +kernel) rfl, mT 1174 (by decide +kernel) rfl, mT 68 (by decide +kernel) rfl, by decide +kernel, by decide +kernel, by decide +kernel⟩
set_option maxHeartbeats 4000000 in
set_option maxRecDepth 100000 in
theorem c_M_mark (l : Launch) (cx : Cx) (nx N : Nat) (D : Dt) (P : Ft) (a0 : Nat) (i1 : Int32) (z : Int32 × Dt) (h : f_M_mark N nx D P a0 i1 = some z) : Ct l cx yX9_mark cX9_mark 2 (some .int) 1 [.ref (cx.2.2 + a0), .int i1] D P nx (some (.int z.1)) z.2 P := by
  refine x_met0 (by decide) (Nat.le_of_ble_eq_true rfl) ?_
  intro p e s m args below meth c X
  have X : XC p s m args meth c cx cX9_mark 2 (some .int) "HeartPinsModel" "mark" := X
  refine XW.sub (lv' := [(0, .ref (cx.2.2 + a0)), (1, .int i1)]) [0, 1] rfl ?_
  unfold f_M_mark at h
  obtain ⟨hk0, h⟩ := grd h
  refine x_iload_n (pc := 0) X dX9_mark_0 (i := 1) rfl 1 rfl ?_
  refine x_iconst (v := 0) (pc := 1) X dX9_mark_1 (by decide) ?_
  refine x_bipush (v := 40) (pc := 2) X dX9_mark_2 (by decide) ?_
  obtain ⟨z1, e1, h⟩ := bnds h
  refine x_callS (pc := 4) (As := [.int i1, .int 0, .int 40]) (st := []) (st' := [.int z1]) X (c_M_in l cx nx N D P _ _ _ z1 e1) dX9_mark_4 w_972 m_M_in rfl ⟨by decide, by decide⟩ ⟨Nat.zero_le _, Nat.zero_le _⟩ rfl (Nat.le_of_ble_eq_true rfl) rfl ?_
  refine x_if_ne (tgt := 12) (pc := 7) X dX9_mark_7 (by decide) (fun c6 => ?_) (fun c6 => ?_)
  · have h := ite_f c6 h
    refine x_aload_n (pc := 12) X dX9_mark_12 (i := 0) rfl 0 rfl ?_
    refine x_geti (ci := 9) (k := 24) (n := 26) (C := RX9) (T := TX9) (pc := 13) X dX9_mark_13 hk0 rfl (by decide) w_913 rfl ?_
    refine x_bipush (v := 8) (pc := 16) X dX9_mark_16 (by decide) ?_
    refine x_icmp_ne (tgt := 24) (pc := 18) X dX9_mark_18 (by decide) (fun c5 => ?_) (fun c5 => ?_)
    · have h := ite_f c5 h
      refine x_aload_n (pc := 24) X dX9_mark_24 (i := 0) rfl 0 rfl ?_
      obtain ⟨q2, e2, h⟩ := nns h
      refine x_getr (ci := 9) (k := 23) (n := 26) (C := RX9) (T := TX9) (pc := 25) X dX9_mark_25 hk0 rfl (by decide) w_912 rfl e2 ?_
      refine x_aload_n (pc := 28) X dX9_mark_28 (i := 0) rfl 0 rfl ?_
      refine x_geti (ci := 9) (k := 24) (n := 26) (C := RX9) (T := TX9) (pc := 29) X dX9_mark_29 hk0 rfl (by decide) w_913 rfl ?_
      refine x_iload_n (pc := 32) X dX9_mark_32 (i := 1) rfl 1 rfl ?_
      obtain ⟨g3, h⟩ := grd h
      obtain ⟨D3, w3, h⟩ := pass h
      refine x_iast (D' := D3) (pc := 33) X dX9_mark_33 g3 w3 ?_
      refine x_aload_n (pc := 34) X dX9_mark_34 (i := 0) rfl 0 rfl ?_
      refine x_dup (pc := 35) X dX9_mark_35 rfl ?_
      refine x_geti (ci := 9) (k := 24) (n := 26) (C := RX9) (T := TX9) (pc := 36) X dX9_mark_36 hk0 rfl (by decide) w_913 rfl ?_
      refine x_iconst (v := 1) (pc := 39) X dX9_mark_39 (by decide) ?_
      refine x_iadd (pc := 40) X dX9_mark_40 ?_
      obtain ⟨D4, w4, h⟩ := pass h
      refine x_puti (ci := 9) (k := 24) (n := 26) (C := RX9) (T := TX9) (D' := D4) (pc := 41) X dX9_mark_41 hk0 rfl (by decide) w_913 rfl (by decide +kernel) rfl w4 ?_
      refine x_aload_n (pc := 44) X dX9_mark_44 (i := 0) rfl 0 rfl ?_
      refine x_geti (ci := 9) (k := 24) (n := 26) (C := RX9) (T := TX9) (pc := 45) X dX9_mark_45 hk0 rfl (by decide) w_913 rfl ?_
      obtain rfl := Option.some.inj h
      exact x_iret (pc := 48) X dX9_mark_48
    · have h := ite_t c5 h
      refine x_bipush (v := (-3)) (pc := 21) X dX9_mark_21 (by decide) ?_
      obtain rfl := Option.some.inj h
      exact x_iret (pc := 23) X dX9_mark_23
  · have h := ite_t c6 h
    refine x_iconst (v := (-1)) (pc := 10) X dX9_mark_10 (by decide) ?_
    obtain rfl := Option.some.inj h
    exact x_iret (pc := 11) X dX9_mark_11
theorem dX9_forget_0 : decode cX9_forget 0 = .ok (.aload_n 0, 1) := by decide +kernel
theorem dX9_forget_1 : decode cX9_forget 1 = .ok (.getfield 139, 3) := by decide +kernel
theorem dX9_forget_4 : decode cX9_forget 4 = .ok (.aload_n 0, 1) := by decide +kernel
theorem dX9_forget_5 : decode cX9_forget 5 = .ok (.getfield 142, 3) := by decide +kernel
theorem dX9_forget_8 : decode cX9_forget 8 = .ok (.iadd, 1) := by decide +kernel
theorem dX9_forget_9 : decode cX9_forget 9 = .ok (.istore_n 1, 1) := by decide +kernel
theorem dX9_forget_10 : decode cX9_forget 10 = .ok (.aload_n 0, 1) := by decide +kernel
theorem dX9_forget_11 : decode cX9_forget 11 = .ok (.iconst 0, 1) := by decide +kernel
theorem dX9_forget_12 : decode cX9_forget 12 = .ok (.putfield 139, 3) := by decide +kernel
theorem dX9_forget_15 : decode cX9_forget 15 = .ok (.aload_n 0, 1) := by decide +kernel
theorem dX9_forget_16 : decode cX9_forget 16 = .ok (.iconst 0, 1) := by decide +kernel
theorem dX9_forget_17 : decode cX9_forget 17 = .ok (.putfield 142, 3) := by decide +kernel
theorem dX9_forget_20 : decode cX9_forget 20 = .ok (.iload_n 1, 1) := by decide +kernel
theorem dX9_forget_21 : decode cX9_forget 21 = .ok (.ireturn, 1) := by decide +kernel
def f_M_forget (N nx : Nat) (D : Dt) (P : Ft) (a0 : Nat) : Option (Int32 × Dt) :=
  if kd nx a0 = 9 then
  pas (upd2 D a0 22 0) fun D1 =>
  pas (upd2 D1 a0 24 0) fun D2 =>
  some ((D a0 22) + (D a0 24), D2)
  else none
theorem m_M_forget : MV yX9_forget cX9_forget 2 (some .int) 0 := ⟨mT 1179 (by decide +kernel) rfl, mT 1177 (by decide +kernel) rfl, mT 1178 (by decide +kernel) rfl, mT 68 (by decide +kernel) rfl, by decide +kernel, by decide +kernel, by decide +kernel⟩
set_option maxHeartbeats 4000000 in
set_option maxRecDepth 100000 in
theorem c_M_forget (l : Launch) (cx : Cx) (nx N : Nat) (D : Dt) (P : Ft) (a0 : Nat) (z : Int32 × Dt) (h : f_M_forget N nx D P a0 = some z) : Ct l cx yX9_forget cX9_forget 2 (some .int) 0 [.ref (cx.2.2 + a0)] D P nx (some (.int z.1)) z.2 P := by
  refine x_met0 (by decide) (Nat.le_of_ble_eq_true rfl) ?_
  intro p e s m args below meth c X
  have X : XC p s m args meth c cx cX9_forget 2 (some .int) "HeartPinsModel" "forget" := X
  refine XW.sub (lv' := [(0, .ref (cx.2.2 + a0))]) [0] rfl ?_
  unfold f_M_forget at h
  obtain ⟨hk0, h⟩ := grd h
  refine x_aload_n (pc := 0) X dX9_forget_0 (i := 0) rfl 0 rfl ?_
  refine x_geti (ci := 9) (k := 22) (n := 26) (C := RX9) (T := TX9) (pc := 1) X dX9_forget_1 hk0 rfl (by decide) w_911 rfl ?_
  refine x_aload_n (pc := 4) X dX9_forget_4 (i := 0) rfl 0 rfl ?_
  refine x_geti (ci := 9) (k := 24) (n := 26) (C := RX9) (T := TX9) (pc := 5) X dX9_forget_5 hk0 rfl (by decide) w_913 rfl ?_
  refine x_iadd (pc := 8) X dX9_forget_8 ?_
  refine x_istore_n (lv' := [(1, .int ((D a0 22) + (D a0 24))), (0, .ref (cx.2.2 + a0))]) (pc := 9) X dX9_forget_9 (i := 1) rfl (by decide) rfl ?_
  refine x_aload_n (pc := 10) X dX9_forget_10 (i := 0) rfl 1 rfl ?_
  refine x_iconst (v := 0) (pc := 11) X dX9_forget_11 (by decide) ?_
  obtain ⟨D1, w1, h⟩ := pass h
  refine x_puti (ci := 9) (k := 22) (n := 26) (C := RX9) (T := TX9) (D' := D1) (pc := 12) X dX9_forget_12 hk0 rfl (by decide) w_911 rfl (by decide +kernel) rfl w1 ?_
  refine x_aload_n (pc := 15) X dX9_forget_15 (i := 0) rfl 1 rfl ?_
  refine x_iconst (v := 0) (pc := 16) X dX9_forget_16 (by decide) ?_
  obtain ⟨D2, w2, h⟩ := pass h
  refine x_puti (ci := 9) (k := 24) (n := 26) (C := RX9) (T := TX9) (D' := D2) (pc := 17) X dX9_forget_17 hk0 rfl (by decide) w_913 rfl (by decide +kernel) rfl w2 ?_
  refine x_iload_n (pc := 20) X dX9_forget_20 (i := 1) rfl 0 rfl ?_
  obtain rfl := Option.some.inj h
  exact x_iret (pc := 21) X dX9_forget_21
theorem dX9_sizeBy_0 : decode cX9_sizeBy 0 = .ok (.aload_n 0, 1) := by decide +kernel
theorem dX9_sizeBy_1 : decode cX9_sizeBy 1 = .ok (.getfield 35, 3) := by decide +kernel
theorem dX9_sizeBy_4 : decode cX9_sizeBy 4 = .ok (.bipush 10, 2) := by decide +kernel
theorem dX9_sizeBy_6 : decode cX9_sizeBy 6 = .ok (.iload_n 1, 1) := by decide +kernel
theorem dX9_sizeBy_7 : decode cX9_sizeBy 7 = .ok (.iadd, 1) := by decide +kernel
theorem dX9_sizeBy_8 : decode cX9_sizeBy 8 = .ok (.iaload, 1) := by decide +kernel
theorem dX9_sizeBy_9 : decode cX9_sizeBy 9 = .ok (.istore 4, 2) := by decide +kernel
theorem dX9_sizeBy_11 : decode cX9_sizeBy 11 = .ok (.iconst 0, 1) := by decide +kernel
theorem dX9_sizeBy_12 : decode cX9_sizeBy 12 = .ok (.istore 5, 2) := by decide +kernel
theorem dX9_sizeBy_14 : decode cX9_sizeBy 14 = .ok (.iload 5, 2) := by decide +kernel
theorem dX9_sizeBy_16 : decode cX9_sizeBy 16 = .ok (.iload_n 3, 1) := by decide +kernel
theorem dX9_sizeBy_17 : decode cX9_sizeBy 17 = .ok (.if_icmp .ge 31, 3) := by decide +kernel
theorem dX9_sizeBy_20 : decode cX9_sizeBy 20 = .ok (.iload 4, 2) := by decide +kernel
theorem dX9_sizeBy_22 : decode cX9_sizeBy 22 = .ok (.ifCond .le 26, 3) := by decide +kernel
theorem dX9_sizeBy_25 : decode cX9_sizeBy 25 = .ok (.iload 4, 2) := by decide +kernel
theorem dX9_sizeBy_27 : decode cX9_sizeBy 27 = .ok (.iload_n 2, 1) := by decide +kernel
theorem dX9_sizeBy_28 : decode cX9_sizeBy 28 = .ok (.aload_n 0, 1) := by decide +kernel
theorem dX9_sizeBy_29 : decode cX9_sizeBy 29 = .ok (.getfield 35, 3) := by decide +kernel
theorem dX9_sizeBy_32 : decode cX9_sizeBy 32 = .ok (.iconst 0, 1) := by decide +kernel
theorem dX9_sizeBy_33 : decode cX9_sizeBy 33 = .ok (.iaload, 1) := by decide +kernel
theorem dX9_sizeBy_34 : decode cX9_sizeBy 34 = .ok (.iload 5, 2) := by decide +kernel
theorem dX9_sizeBy_36 : decode cX9_sizeBy 36 = .ok (.iadd, 1) := by decide +kernel
theorem dX9_sizeBy_37 : decode cX9_sizeBy 37 = .ok (.invokestatic 170, 3) := by decide +kernel
theorem dX9_sizeBy_40 : decode cX9_sizeBy 40 = .ok (.istore 4, 2) := by decide +kernel
theorem dX9_sizeBy_42 : decode cX9_sizeBy 42 = .ok (.iinc 5 1, 3) := by decide +kernel
theorem dX9_sizeBy_45 : decode cX9_sizeBy 45 = .ok (.goto (-31), 3) := by decide +kernel
theorem dX9_sizeBy_48 : decode cX9_sizeBy 48 = .ok (.iload 4, 2) := by decide +kernel
theorem dX9_sizeBy_50 : decode cX9_sizeBy 50 = .ok (.ireturn, 1) := by decide +kernel
def f_M_sizeBy_14 (N nx : Nat) (D : Dt) (P : Ft) (a0 : Nat) (i2 : Int32) (i3 : Int32) (rec14 : Int32 → Int32 → Option Int32) (i4 : Int32) (i5 : Int32) : Option Int32 :=
  if i3 ≤ i5 then
    some i4
  else
    if i4 ≤ 0 then
      some i4
    else
      nn (P a0 11) fun q3 =>
      if ab nx q3 3 0 = true then
      (f_M_grown N nx D P i4 i2 ((D q3 (0 : Int32).toNatClampNeg) + i5)).bind fun z5 =>
      rec14 z5 (i5 + 1)
      else none
def f_M_sizeBy (N nx : Nat) (D : Dt) (P : Ft) (a0 : Nat) (i1 : Int32) (i2 : Int32) (i3 : Int32) : Option Int32 :=
  if kd nx a0 = 9 then
  nn (P a0 11) fun q1 =>
  if ab nx q1 3 (10 + i1) = true then
  wk2 N (f_M_sizeBy_14 N nx D P a0 i2 i3) (D q1 (10 + i1).toNatClampNeg) 0
  else none
  else none
theorem m_M_sizeBy : MV yX9_sizeBy cX9_sizeBy 6 (some .int) 3 := ⟨mT 1187 (by decide +kernel) rfl, mT 1186 (by decide +kernel) rfl, mT 49 (by decide +kernel) rfl, mT 68 (by decide +kernel) rfl, by decide +kernel, by decide +kernel, by decide +kernel⟩
set_option maxHeartbeats 4000000 in
set_option maxRecDepth 100000 in
theorem c_M_sizeBy (l : Launch) (cx : Cx) (nx N : Nat) (D : Dt) (P : Ft) (a0 : Nat) (i1 : Int32) (i2 : Int32) (i3 : Int32) (z : Int32) (h : f_M_sizeBy N nx D P a0 i1 i2 i3 = some z) : Ct l cx yX9_sizeBy cX9_sizeBy 6 (some .int) 1 [.ref (cx.2.2 + a0), .int i1, .int i2, .int i3] D P nx (some (.int z)) D P := by
  refine x_met0 (by decide) (Nat.le_of_ble_eq_true rfl) ?_
  intro p e s m args below meth c X
  have X : XC p s m args meth c cx cX9_sizeBy 6 (some .int) "HeartPinsModel" "sizeBy" := X
  refine XW.sub (lv' := [(0, .ref (cx.2.2 + a0)), (1, .int i1), (2, .int i2), (3, .int i3)]) [0, 1, 2, 3] rfl ?_
  unfold f_M_sizeBy at h
  obtain ⟨hk0, h⟩ := grd h
  have hL14 : ∀ (n : Nat) (i4 : Int32) (i5 : Int32), wk2 n (f_M_sizeBy_14 N nx D P a0 i2 i3) i4 i5 = some z → XW p l e (rmk 1) s m args below meth c (MQ below (Qx cx (some (.int z)) D P nx) args s 0 0 (AA cx)) cx 6 D P nx 0 0 14 [(0, .ref (cx.2.2 + a0)), (2, .int i2), (3, .int i3), (4, .int i4), (5, .int i5)] [] := by
    intro n
    induction n with
    | zero => intro i4 i5 h; exact (nonz h).elim
    | succ n ih14 =>
      intro i4 i5 h
      have h : f_M_sizeBy_14 N nx D P a0 i2 i3 (wk2 n (f_M_sizeBy_14 N nx D P a0 i2 i3)) i4 i5 = some z := h
      generalize wk2 n (f_M_sizeBy_14 N nx D P a0 i2 i3) = rec14 at ih14 h
      unfold f_M_sizeBy_14 at h
      refine x_iload (pc := 14) X dX9_sizeBy_14 4 rfl ?_
      refine x_iload_n (pc := 16) X dX9_sizeBy_16 (i := 3) rfl 2 rfl ?_
      refine x_icmp_ge (tgt := 48) (pc := 17) X dX9_sizeBy_17 (by decide) (fun c7 => ?_) (fun c7 => ?_)
      · have h := ite_t c7 h
        refine x_iload (pc := 48) X dX9_sizeBy_48 3 rfl ?_
        obtain rfl := Option.some.inj h
        exact x_iret (pc := 50) X dX9_sizeBy_50
      · have h := ite_f c7 h
        refine x_iload (pc := 20) X dX9_sizeBy_20 3 rfl ?_
        refine x_if_le (tgt := 48) (pc := 22) X dX9_sizeBy_22 (by decide) (fun c6 => ?_) (fun c6 => ?_)
        · have h := ite_t c6 h
          refine x_iload (pc := 48) X dX9_sizeBy_48 3 rfl ?_
          obtain rfl := Option.some.inj h
          exact x_iret (pc := 50) X dX9_sizeBy_50
        · have h := ite_f c6 h
          refine x_iload (pc := 25) X dX9_sizeBy_25 3 rfl ?_
          refine x_iload_n (pc := 27) X dX9_sizeBy_27 (i := 2) rfl 1 rfl ?_
          refine x_aload_n (pc := 28) X dX9_sizeBy_28 (i := 0) rfl 0 rfl ?_
          obtain ⟨q3, e3, h⟩ := nns h
          refine x_getr (ci := 9) (k := 11) (n := 26) (C := RX9) (T := TX9) (pc := 29) X dX9_sizeBy_29 hk0 rfl (by decide) w_900 rfl e3 ?_
          refine x_iconst (v := 0) (pc := 32) X dX9_sizeBy_32 (by decide) ?_
          obtain ⟨g4, h⟩ := grd h
          refine x_iald (pc := 33) X dX9_sizeBy_33 g4 ?_
          refine x_iload (pc := 34) X dX9_sizeBy_34 4 rfl ?_
          refine x_iadd (pc := 36) X dX9_sizeBy_36 ?_
          obtain ⟨z5, e5, h⟩ := bnds h
          refine x_callS (pc := 37) (As := [.int i4, .int i2, .int ((D q3 (0 : Int32).toNatClampNeg) + i5)]) (st := []) (st' := [.int z5]) X (c_M_grown l cx nx N D P _ _ _ z5 e5) dX9_sizeBy_37 w_1097 m_M_grown rfl ⟨by decide, by decide⟩ ⟨Nat.zero_le _, Nat.zero_le _⟩ rfl (Nat.le_of_ble_eq_true rfl) rfl ?_
          refine x_istore (lv' := [(4, .int z5), (0, .ref (cx.2.2 + a0)), (2, .int i2), (3, .int i3), (5, .int i5)]) (pc := 40) X dX9_sizeBy_40 (by decide) rfl ?_
          refine x_iinc (v := i5 + 1) (lv' := [(5, .int (i5 + 1)), (4, .int z5), (0, .ref (cx.2.2 + a0)), (2, .int i2), (3, .int i3)]) (pc := 42) X dX9_sizeBy_42 4 rfl rfl (by decide) rfl ?_
          refine x_goto (tgt := 14) (pc := 45) X dX9_sizeBy_45 (by decide) ?_
          exact XW.sub [2, 3, 4, 1, 0] rfl (ih14 _ _ h)
  refine x_aload_n (pc := 0) X dX9_sizeBy_0 (i := 0) rfl 0 rfl ?_
  obtain ⟨q1, e1, h⟩ := nns h
  refine x_getr (ci := 9) (k := 11) (n := 26) (C := RX9) (T := TX9) (pc := 1) X dX9_sizeBy_1 hk0 rfl (by decide) w_900 rfl e1 ?_
  refine x_bipush (v := 10) (pc := 4) X dX9_sizeBy_4 (by decide) ?_
  refine x_iload_n (pc := 6) X dX9_sizeBy_6 (i := 1) rfl 1 rfl ?_
  refine x_iadd (pc := 7) X dX9_sizeBy_7 ?_
  obtain ⟨g2, h⟩ := grd h
  refine x_iald (pc := 8) X dX9_sizeBy_8 g2 ?_
  refine x_istore (lv' := [(4, .int (D q1 (10 + i1).toNatClampNeg)), (0, .ref (cx.2.2 + a0)), (1, .int i1), (2, .int i2), (3, .int i3)]) (pc := 9) X dX9_sizeBy_9 (by decide) rfl ?_
  refine x_iconst (v := 0) (pc := 11) X dX9_sizeBy_11 (by decide) ?_
  refine x_istore (lv' := [(5, .int 0), (4, .int (D q1 (10 + i1).toNatClampNeg)), (0, .ref (cx.2.2 + a0)), (1, .int i1), (2, .int i2), (3, .int i3)]) (pc := 12) X dX9_sizeBy_12 (by decide) rfl ?_
  exact XW.sub [2, 4, 5, 1, 0] rfl (hL14 _ _ _ h)
theorem dX9_kinds_0 : decode cX9_kinds 0 = .ok (.aload_n 0, 1) := by decide +kernel
theorem dX9_kinds_1 : decode cX9_kinds 1 = .ok (.iload_n 1, 1) := by decide +kernel
theorem dX9_kinds_2 : decode cX9_kinds 2 = .ok (.invokevirtual 178, 3) := by decide +kernel
theorem dX9_kinds_5 : decode cX9_kinds 5 = .ok (.ifCond .ne 5, 3) := by decide +kernel
theorem dX9_kinds_8 : decode cX9_kinds 8 = .ok (.iconst (-1), 1) := by decide +kernel
theorem dX9_kinds_9 : decode cX9_kinds 9 = .ok (.ireturn, 1) := by decide +kernel
theorem dX9_kinds_10 : decode cX9_kinds 10 = .ok (.iconst 0, 1) := by decide +kernel
theorem dX9_kinds_11 : decode cX9_kinds 11 = .ok (.istore_n 2, 1) := by decide +kernel
theorem dX9_kinds_12 : decode cX9_kinds 12 = .ok (.iconst 0, 1) := by decide +kernel
theorem dX9_kinds_13 : decode cX9_kinds 13 = .ok (.istore_n 3, 1) := by decide +kernel
theorem dX9_kinds_14 : decode cX9_kinds 14 = .ok (.iload_n 3, 1) := by decide +kernel
theorem dX9_kinds_15 : decode cX9_kinds 15 = .ok (.iconst 3, 1) := by decide +kernel
theorem dX9_kinds_16 : decode cX9_kinds 16 = .ok (.if_icmp .gt 91, 3) := by decide +kernel
theorem dX9_kinds_19 : decode cX9_kinds 19 = .ok (.iconst 1, 1) := by decide +kernel
theorem dX9_kinds_20 : decode cX9_kinds 20 = .ok (.istore 4, 2) := by decide +kernel
theorem dX9_kinds_22 : decode cX9_kinds 22 = .ok (.iconst 0, 1) := by decide +kernel
theorem dX9_kinds_23 : decode cX9_kinds 23 = .ok (.istore 5, 2) := by decide +kernel
theorem dX9_kinds_25 : decode cX9_kinds 25 = .ok (.iload 5, 2) := by decide +kernel
theorem dX9_kinds_27 : decode cX9_kinds 27 = .ok (.aload_n 0, 1) := by decide +kernel
theorem dX9_kinds_28 : decode cX9_kinds 28 = .ok (.getfield 139, 3) := by decide +kernel
theorem dX9_kinds_31 : decode cX9_kinds 31 = .ok (.if_icmp .ge 55, 3) := by decide +kernel
theorem dX9_kinds_34 : decode cX9_kinds 34 = .ok (.iload 4, 2) := by decide +kernel
theorem dX9_kinds_36 : decode cX9_kinds 36 = .ok (.ifCond .eq 41, 3) := by decide +kernel
theorem dX9_kinds_39 : decode cX9_kinds 39 = .ok (.aload_n 0, 1) := by decide +kernel
theorem dX9_kinds_40 : decode cX9_kinds 40 = .ok (.getfield 53, 3) := by decide +kernel
theorem dX9_kinds_43 : decode cX9_kinds 43 = .ok (.iload 5, 2) := by decide +kernel
theorem dX9_kinds_45 : decode cX9_kinds 45 = .ok (.iaload, 1) := by decide +kernel
theorem dX9_kinds_46 : decode cX9_kinds 46 = .ok (.iload_n 1, 1) := by decide +kernel
theorem dX9_kinds_47 : decode cX9_kinds 47 = .ok (.if_icmp .ne 26, 3) := by decide +kernel
theorem dX9_kinds_50 : decode cX9_kinds 50 = .ok (.aload_n 0, 1) := by decide +kernel
theorem dX9_kinds_51 : decode cX9_kinds 51 = .ok (.iload_n 1, 1) := by decide +kernel
theorem dX9_kinds_52 : decode cX9_kinds 52 = .ok (.iload_n 3, 1) := by decide +kernel
theorem dX9_kinds_53 : decode cX9_kinds 53 = .ok (.aload_n 0, 1) := by decide +kernel
theorem dX9_kinds_54 : decode cX9_kinds 54 = .ok (.getfield 56, 3) := by decide +kernel
theorem dX9_kinds_57 : decode cX9_kinds 57 = .ok (.iload 5, 2) := by decide +kernel
theorem dX9_kinds_59 : decode cX9_kinds 59 = .ok (.iaload, 1) := by decide +kernel
theorem dX9_kinds_60 : decode cX9_kinds 60 = .ok (.invokevirtual 217, 3) := by decide +kernel
theorem dX9_kinds_63 : decode cX9_kinds 63 = .ok (.aload_n 0, 1) := by decide +kernel
theorem dX9_kinds_64 : decode cX9_kinds 64 = .ok (.getfield 59, 3) := by decide +kernel
theorem dX9_kinds_67 : decode cX9_kinds 67 = .ok (.iload 5, 2) := by decide +kernel
theorem dX9_kinds_69 : decode cX9_kinds 69 = .ok (.iaload, 1) := by decide +kernel
theorem dX9_kinds_70 : decode cX9_kinds 70 = .ok (.if_icmp .ne 7, 3) := by decide +kernel
theorem dX9_kinds_73 : decode cX9_kinds 73 = .ok (.iconst 1, 1) := by decide +kernel
theorem dX9_kinds_74 : decode cX9_kinds 74 = .ok (.goto 4, 3) := by decide +kernel
theorem dX9_kinds_77 : decode cX9_kinds 77 = .ok (.iconst 0, 1) := by decide +kernel
theorem dX9_kinds_78 : decode cX9_kinds 78 = .ok (.istore 4, 2) := by decide +kernel
theorem dX9_kinds_80 : decode cX9_kinds 80 = .ok (.iinc 5 1, 3) := by decide +kernel
theorem dX9_kinds_83 : decode cX9_kinds 83 = .ok (.goto (-58), 3) := by decide +kernel
theorem dX9_kinds_86 : decode cX9_kinds 86 = .ok (.iload_n 2, 1) := by decide +kernel
theorem dX9_kinds_87 : decode cX9_kinds 87 = .ok (.iload 4, 2) := by decide +kernel
theorem dX9_kinds_89 : decode cX9_kinds 89 = .ok (.ifCond .eq 9, 3) := by decide +kernel
theorem dX9_kinds_92 : decode cX9_kinds 92 = .ok (.iconst 1, 1) := by decide +kernel
theorem dX9_kinds_93 : decode cX9_kinds 93 = .ok (.iload_n 3, 1) := by decide +kernel
theorem dX9_kinds_94 : decode cX9_kinds 94 = .ok (.ishl, 1) := by decide +kernel
theorem dX9_kinds_95 : decode cX9_kinds 95 = .ok (.goto 4, 3) := by decide +kernel
theorem dX9_kinds_98 : decode cX9_kinds 98 = .ok (.iconst 0, 1) := by decide +kernel
theorem dX9_kinds_99 : decode cX9_kinds 99 = .ok (.ior, 1) := by decide +kernel
theorem dX9_kinds_100 : decode cX9_kinds 100 = .ok (.istore_n 2, 1) := by decide +kernel
theorem dX9_kinds_101 : decode cX9_kinds 101 = .ok (.iinc 3 1, 3) := by decide +kernel
theorem dX9_kinds_104 : decode cX9_kinds 104 = .ok (.goto (-90), 3) := by decide +kernel
theorem dX9_kinds_107 : decode cX9_kinds 107 = .ok (.iload_n 2, 1) := by decide +kernel
theorem dX9_kinds_108 : decode cX9_kinds 108 = .ok (.ireturn, 1) := by decide +kernel
def f_M_kinds_25 (N nx : Nat) (rec14 : Int32 → Int32 → Option Int32) (D : Dt) (P : Ft) (a0 : Nat) (i1 : Int32) (i2 : Int32) (i3 : Int32) (rec25 : Int32 → Int32 → Option Int32) (i4 : Int32) (i5 : Int32) : Option Int32 :=
  if D a0 22 ≤ i5 then
    if i4 = 0 then
      rec14 (i2 ||| 0) (i3 + 1)
    else
      rec14 (i2 ||| (1 <<< (i3 &&& 31))) (i3 + 1)
  else
    if i4 = 0 then
      rec25 0 (i5 + 1)
    else
      nn (P a0 19) fun q3 =>
      if ab nx q3 3 i5 = true then
      if D q3 i5.toNatClampNeg = i1 then
        nn (P a0 20) fun q5 =>
        if ab nx q5 3 i5 = true then
        (f_M_sizeBy N nx D P a0 i1 i3 (D q5 i5.toNatClampNeg)).bind fun z7 =>
        nn (P a0 21) fun q8 =>
        if ab nx q8 3 i5 = true then
        if z7 = D q8 i5.toNatClampNeg then
          rec25 1 (i5 + 1)
        else
          rec25 0 (i5 + 1)
        else none
        else none
      else
        rec25 1 (i5 + 1)
      else none
def f_M_kinds_14 (N nx : Nat) (D : Dt) (P : Ft) (a0 : Nat) (i1 : Int32) (rec14 : Int32 → Int32 → Option Int32) (i2 : Int32) (i3 : Int32) : Option Int32 :=
  if 3 < i3 then
    some i2
  else
    wk2 N (f_M_kinds_25 N nx rec14 D P a0 i1 i2 i3) 1 0
def f_M_kinds (N nx : Nat) (D : Dt) (P : Ft) (a0 : Nat) (i1 : Int32) : Option Int32 :=
  if kd nx a0 = 9 then
  (f_M_isPin N nx D P a0 i1).bind fun z1 =>
  if z1 = 0 then
    some (-1)
  else
    wk2 N (f_M_kinds_14 N nx D P a0 i1) 0 0
  else none
theorem m_M_kinds : MV yX9_kinds cX9_kinds 6 (some .int) 1 := ⟨mT 1183 (by decide +kernel) rfl, mT 1181 (by decide +kernel) rfl, mT 1182 (by decide +kernel) rfl, mT 68 (by decide +kernel) rfl, by decide +kernel, by decide +kernel, by decide +kernel⟩
set_option maxHeartbeats 4000000 in
set_option maxRecDepth 100000 in
theorem c_M_kinds (l : Launch) (cx : Cx) (nx N : Nat) (D : Dt) (P : Ft) (a0 : Nat) (i1 : Int32) (z : Int32) (h : f_M_kinds N nx D P a0 i1 = some z) : Ct l cx yX9_kinds cX9_kinds 6 (some .int) 2 [.ref (cx.2.2 + a0), .int i1] D P nx (some (.int z)) D P := by
  refine x_met0 (by decide) (Nat.le_of_ble_eq_true rfl) ?_
  intro p e s m args below meth c X
  have X : XC p s m args meth c cx cX9_kinds 6 (some .int) "HeartPinsModel" "kinds" := X
  refine XW.sub (lv' := [(0, .ref (cx.2.2 + a0)), (1, .int i1)]) [0, 1] rfl ?_
  unfold f_M_kinds at h
  obtain ⟨hk0, h⟩ := grd h
  have hL14 : ∀ (n : Nat) (i2 : Int32) (i3 : Int32), wk2 n (f_M_kinds_14 N nx D P a0 i1) i2 i3 = some z → XW p l e (rmk 2) s m args below meth c (MQ below (Qx cx (some (.int z)) D P nx) args s 0 0 (AA cx)) cx 6 D P nx 0 0 14 [(0, .ref (cx.2.2 + a0)), (1, .int i1), (2, .int i2), (3, .int i3)] [] := by
    intro n
    induction n with
    | zero => intro i2 i3 h; exact (nonz h).elim
    | succ n ih14 =>
      intro i2 i3 h
      have h : f_M_kinds_14 N nx D P a0 i1 (wk2 n (f_M_kinds_14 N nx D P a0 i1)) i2 i3 = some z := h
      generalize wk2 n (f_M_kinds_14 N nx D P a0 i1) = rec14 at ih14 h
      unfold f_M_kinds_14 at h
      have hL25 : ∀ (i2 : Int32) (i3 : Int32) (n : Nat) (i4 : Int32) (i5 : Int32), wk2 n (f_M_kinds_25 N nx rec14 D P a0 i1 i2 i3) i4 i5 = some z → XW p l e (rmk 2) s m args below meth c (MQ below (Qx cx (some (.int z)) D P nx) args s 0 0 (AA cx)) cx 6 D P nx 0 0 25 [(0, .ref (cx.2.2 + a0)), (1, .int i1), (2, .int i2), (3, .int i3), (4, .int i4), (5, .int i5)] [] := by
        intro i2 i3 n
        induction n with
        | zero => intro i4 i5 h; exact (nonz h).elim
        | succ n ih25 =>
          intro i4 i5 h
          have h : f_M_kinds_25 N nx rec14 D P a0 i1 i2 i3 (wk2 n (f_M_kinds_25 N nx rec14 D P a0 i1 i2 i3)) i4 i5 = some z := h
          generalize wk2 n (f_M_kinds_25 N nx rec14 D P a0 i1 i2 i3) = rec25 at ih25 h
          unfold f_M_kinds_25 at h
          refine x_iload (pc := 25) X dX9_kinds_25 5 rfl ?_
          refine x_aload_n (pc := 27) X dX9_kinds_27 (i := 0) rfl 0 rfl ?_
          refine x_geti (ci := 9) (k := 22) (n := 26) (C := RX9) (T := TX9) (pc := 28) X dX9_kinds_28 hk0 rfl (by decide) w_911 rfl ?_
          refine x_icmp_ge (tgt := 86) (pc := 31) X dX9_kinds_31 (by decide) (fun c13 => ?_) (fun c13 => ?_)
          · have h := ite_t c13 h
            refine x_iload_n (pc := 86) X dX9_kinds_86 (i := 2) rfl 2 rfl ?_
            refine x_iload (pc := 87) X dX9_kinds_87 4 rfl ?_
            refine x_if_eq (tgt := 98) (pc := 89) X dX9_kinds_89 (by decide) (fun c2 => ?_) (fun c2 => ?_)
            · have h := ite_t c2 h
              refine x_iconst (v := 0) (pc := 98) X dX9_kinds_98 (by decide) ?_
              refine x_ior (pc := 99) X dX9_kinds_99 ?_
              refine x_istore_n (lv' := [(2, .int (i2 ||| 0)), (0, .ref (cx.2.2 + a0)), (1, .int i1), (3, .int i3), (4, .int i4), (5, .int i5)]) (pc := 100) X dX9_kinds_100 (i := 2) rfl (by decide) rfl ?_
              refine x_iinc (v := i3 + 1) (lv' := [(3, .int (i3 + 1)), (2, .int (i2 ||| 0)), (0, .ref (cx.2.2 + a0)), (1, .int i1), (4, .int i4), (5, .int i5)]) (pc := 101) X dX9_kinds_101 3 rfl rfl (by decide) rfl ?_
              refine x_goto (tgt := 14) (pc := 104) X dX9_kinds_104 (by decide) ?_
              exact XW.sub [2, 3, 1, 0] rfl (ih14 _ _ h)
            · have h := ite_f c2 h
              refine x_iconst (v := 1) (pc := 92) X dX9_kinds_92 (by decide) ?_
              refine x_iload_n (pc := 93) X dX9_kinds_93 (i := 3) rfl 3 rfl ?_
              refine x_ishl (pc := 94) X dX9_kinds_94 ?_
              refine x_goto (tgt := 99) (pc := 95) X dX9_kinds_95 (by decide) ?_
              refine x_ior (pc := 99) X dX9_kinds_99 ?_
              refine x_istore_n (lv' := [(2, .int (i2 ||| (1 <<< (i3 &&& 31)))), (0, .ref (cx.2.2 + a0)), (1, .int i1), (3, .int i3), (4, .int i4), (5, .int i5)]) (pc := 100) X dX9_kinds_100 (i := 2) rfl (by decide) rfl ?_
              refine x_iinc (v := i3 + 1) (lv' := [(3, .int (i3 + 1)), (2, .int (i2 ||| (1 <<< (i3 &&& 31)))), (0, .ref (cx.2.2 + a0)), (1, .int i1), (4, .int i4), (5, .int i5)]) (pc := 101) X dX9_kinds_101 3 rfl rfl (by decide) rfl ?_
              refine x_goto (tgt := 14) (pc := 104) X dX9_kinds_104 (by decide) ?_
              exact XW.sub [2, 3, 1, 0] rfl (ih14 _ _ h)
          · have h := ite_f c13 h
            refine x_iload (pc := 34) X dX9_kinds_34 4 rfl ?_
            refine x_if_eq (tgt := 77) (pc := 36) X dX9_kinds_36 (by decide) (fun c12 => ?_) (fun c12 => ?_)
            · have h := ite_t c12 h
              refine x_iconst (v := 0) (pc := 77) X dX9_kinds_77 (by decide) ?_
              refine x_istore (lv' := [(4, .int 0), (0, .ref (cx.2.2 + a0)), (1, .int i1), (2, .int i2), (3, .int i3), (5, .int i5)]) (pc := 78) X dX9_kinds_78 (by decide) rfl ?_
              refine x_iinc (v := i5 + 1) (lv' := [(5, .int (i5 + 1)), (4, .int 0), (0, .ref (cx.2.2 + a0)), (1, .int i1), (2, .int i2), (3, .int i3)]) (pc := 80) X dX9_kinds_80 5 rfl rfl (by decide) rfl ?_
              refine x_goto (tgt := 25) (pc := 83) X dX9_kinds_83 (by decide) ?_
              exact XW.sub [2, 3, 4, 5, 1, 0] rfl (ih25 _ _ h)
            · have h := ite_f c12 h
              refine x_aload_n (pc := 39) X dX9_kinds_39 (i := 0) rfl 0 rfl ?_
              obtain ⟨q3, e3, h⟩ := nns h
              refine x_getr (ci := 9) (k := 19) (n := 26) (C := RX9) (T := TX9) (pc := 40) X dX9_kinds_40 hk0 rfl (by decide) w_908 rfl e3 ?_
              refine x_iload (pc := 43) X dX9_kinds_43 5 rfl ?_
              obtain ⟨g4, h⟩ := grd h
              refine x_iald (pc := 45) X dX9_kinds_45 g4 ?_
              refine x_iload_n (pc := 46) X dX9_kinds_46 (i := 1) rfl 1 rfl ?_
              refine x_icmp_ne (tgt := 73) (pc := 47) X dX9_kinds_47 (by decide) (fun c11 => ?_) (fun c11 => ?_)
              · have h := ite_f c11 h
                refine x_iconst (v := 1) (pc := 73) X dX9_kinds_73 (by decide) ?_
                refine x_goto (tgt := 78) (pc := 74) X dX9_kinds_74 (by decide) ?_
                refine x_istore (lv' := [(4, .int 1), (0, .ref (cx.2.2 + a0)), (1, .int i1), (2, .int i2), (3, .int i3), (5, .int i5)]) (pc := 78) X dX9_kinds_78 (by decide) rfl ?_
                refine x_iinc (v := i5 + 1) (lv' := [(5, .int (i5 + 1)), (4, .int 1), (0, .ref (cx.2.2 + a0)), (1, .int i1), (2, .int i2), (3, .int i3)]) (pc := 80) X dX9_kinds_80 5 rfl rfl (by decide) rfl ?_
                refine x_goto (tgt := 25) (pc := 83) X dX9_kinds_83 (by decide) ?_
                exact XW.sub [2, 3, 4, 5, 1, 0] rfl (ih25 _ _ h)
              · have h := ite_t c11 h
                refine x_aload_n (pc := 50) X dX9_kinds_50 (i := 0) rfl 0 rfl ?_
                refine x_iload_n (pc := 51) X dX9_kinds_51 (i := 1) rfl 1 rfl ?_
                refine x_iload_n (pc := 52) X dX9_kinds_52 (i := 3) rfl 3 rfl ?_
                refine x_aload_n (pc := 53) X dX9_kinds_53 (i := 0) rfl 0 rfl ?_
                obtain ⟨q5, e5, h⟩ := nns h
                refine x_getr (ci := 9) (k := 20) (n := 26) (C := RX9) (T := TX9) (pc := 54) X dX9_kinds_54 hk0 rfl (by decide) w_909 rfl e5 ?_
                refine x_iload (pc := 57) X dX9_kinds_57 5 rfl ?_
                obtain ⟨g6, h⟩ := grd h
                refine x_iald (pc := 59) X dX9_kinds_59 g6 ?_
                obtain ⟨z7, e7, h⟩ := bnds h
                refine x_callV (pc := 60) (As := [.int i1, .int i3, .int (D q5 i5.toNatClampNeg)]) (st := []) (st' := [.int z7]) X (c_M_sizeBy l cx nx N D P _ _ _ _ z7 e7) dX9_kinds_60 w_1184 m_M_sizeBy rfl hk0 (ci := 9) rfl rfl ⟨by decide, by decide⟩ ⟨Nat.zero_le _, Nat.zero_le _⟩ rfl (Nat.le_of_ble_eq_true rfl) rfl ?_
                refine x_aload_n (pc := 63) X dX9_kinds_63 (i := 0) rfl 0 rfl ?_
                obtain ⟨q8, e8, h⟩ := nns h
                refine x_getr (ci := 9) (k := 21) (n := 26) (C := RX9) (T := TX9) (pc := 64) X dX9_kinds_64 hk0 rfl (by decide) w_910 rfl e8 ?_
                refine x_iload (pc := 67) X dX9_kinds_67 5 rfl ?_
                obtain ⟨g9, h⟩ := grd h
                refine x_iald (pc := 69) X dX9_kinds_69 g9 ?_
                refine x_icmp_ne (tgt := 77) (pc := 70) X dX9_kinds_70 (by decide) (fun c10 => ?_) (fun c10 => ?_)
                · have h := ite_f c10 h
                  refine x_iconst (v := 0) (pc := 77) X dX9_kinds_77 (by decide) ?_
                  refine x_istore (lv' := [(4, .int 0), (0, .ref (cx.2.2 + a0)), (1, .int i1), (2, .int i2), (3, .int i3), (5, .int i5)]) (pc := 78) X dX9_kinds_78 (by decide) rfl ?_
                  refine x_iinc (v := i5 + 1) (lv' := [(5, .int (i5 + 1)), (4, .int 0), (0, .ref (cx.2.2 + a0)), (1, .int i1), (2, .int i2), (3, .int i3)]) (pc := 80) X dX9_kinds_80 5 rfl rfl (by decide) rfl ?_
                  refine x_goto (tgt := 25) (pc := 83) X dX9_kinds_83 (by decide) ?_
                  exact XW.sub [2, 3, 4, 5, 1, 0] rfl (ih25 _ _ h)
                · have h := ite_t c10 h
                  refine x_iconst (v := 1) (pc := 73) X dX9_kinds_73 (by decide) ?_
                  refine x_goto (tgt := 78) (pc := 74) X dX9_kinds_74 (by decide) ?_
                  refine x_istore (lv' := [(4, .int 1), (0, .ref (cx.2.2 + a0)), (1, .int i1), (2, .int i2), (3, .int i3), (5, .int i5)]) (pc := 78) X dX9_kinds_78 (by decide) rfl ?_
                  refine x_iinc (v := i5 + 1) (lv' := [(5, .int (i5 + 1)), (4, .int 1), (0, .ref (cx.2.2 + a0)), (1, .int i1), (2, .int i2), (3, .int i3)]) (pc := 80) X dX9_kinds_80 5 rfl rfl (by decide) rfl ?_
                  refine x_goto (tgt := 25) (pc := 83) X dX9_kinds_83 (by decide) ?_
                  exact XW.sub [2, 3, 4, 5, 1, 0] rfl (ih25 _ _ h)
      refine x_iload_n (pc := 14) X dX9_kinds_14 (i := 3) rfl 3 rfl ?_
      refine x_iconst (v := 3) (pc := 15) X dX9_kinds_15 (by decide) ?_
      refine x_icmp_gt (tgt := 107) (pc := 16) X dX9_kinds_16 (by decide) (fun c14 => ?_) (fun c14 => ?_)
      · have h := ite_t c14 h
        refine x_iload_n (pc := 107) X dX9_kinds_107 (i := 2) rfl 2 rfl ?_
        obtain rfl := Option.some.inj h
        exact x_iret (pc := 108) X dX9_kinds_108
      · have h := ite_f c14 h
        refine x_iconst (v := 1) (pc := 19) X dX9_kinds_19 (by decide) ?_
        refine x_istore (lv' := [(4, .int 1), (0, .ref (cx.2.2 + a0)), (1, .int i1), (2, .int i2), (3, .int i3)]) (pc := 20) X dX9_kinds_20 (by decide) rfl ?_
        refine x_iconst (v := 0) (pc := 22) X dX9_kinds_22 (by decide) ?_
        refine x_istore (lv' := [(5, .int 0), (4, .int 1), (0, .ref (cx.2.2 + a0)), (1, .int i1), (2, .int i2), (3, .int i3)]) (pc := 23) X dX9_kinds_23 (by decide) rfl ?_
        exact XW.sub [2, 3, 4, 5, 1, 0] rfl (hL25 _ _ _ _ _ h)
  refine x_aload_n (pc := 0) X dX9_kinds_0 (i := 0) rfl 0 rfl ?_
  refine x_iload_n (pc := 1) X dX9_kinds_1 (i := 1) rfl 1 rfl ?_
  obtain ⟨z1, e1, h⟩ := bnds h
  refine x_callV (pc := 2) (As := [.int i1]) (st := []) (st' := [.int z1]) X (c_M_isPin l cx nx N D P _ _ z1 e1) dX9_kinds_2 w_1054 m_M_isPin rfl hk0 (ci := 9) rfl rfl ⟨by decide, by decide⟩ ⟨Nat.zero_le _, Nat.zero_le _⟩ rfl (Nat.le_of_ble_eq_true rfl) rfl ?_
  refine x_if_ne (tgt := 10) (pc := 5) X dX9_kinds_5 (by decide) (fun c15 => ?_) (fun c15 => ?_)
  · have h := ite_f c15 h
    refine x_iconst (v := 0) (pc := 10) X dX9_kinds_10 (by decide) ?_
    refine x_istore_n (lv' := [(2, .int 0), (0, .ref (cx.2.2 + a0)), (1, .int i1)]) (pc := 11) X dX9_kinds_11 (i := 2) rfl (by decide) rfl ?_
    refine x_iconst (v := 0) (pc := 12) X dX9_kinds_12 (by decide) ?_
    refine x_istore_n (lv' := [(3, .int 0), (2, .int 0), (0, .ref (cx.2.2 + a0)), (1, .int i1)]) (pc := 13) X dX9_kinds_13 (i := 3) rfl (by decide) rfl ?_
    exact XW.sub [2, 3, 1, 0] rfl (hL14 _ _ _ h)
  · have h := ite_t c15 h
    refine x_iconst (v := (-1)) (pc := 8) X dX9_kinds_8 (by decide) ?_
    obtain rfl := Option.some.inj h
    exact x_iret (pc := 9) X dX9_kinds_9
theorem dX9_tellWays_0 : decode cX9_tellWays 0 = .ok (.sipush 255, 3) := by decide +kernel
theorem dX9_tellWays_3 : decode cX9_tellWays 3 = .ok (.istore_n 3, 1) := by decide +kernel
theorem dX9_tellWays_4 : decode cX9_tellWays 4 = .ok (.iload_n 3, 1) := by decide +kernel
theorem dX9_tellWays_5 : decode cX9_tellWays 5 = .ok (.ifCond .lt 138, 3) := by decide +kernel
theorem dX9_tellWays_8 : decode cX9_tellWays 8 = .ok (.aload_n 0, 1) := by decide +kernel
theorem dX9_tellWays_9 : decode cX9_tellWays 9 = .ok (.getfield 65, 3) := by decide +kernel
theorem dX9_tellWays_12 : decode cX9_tellWays 12 = .ok (.iload_n 3, 1) := by decide +kernel
theorem dX9_tellWays_13 : decode cX9_tellWays 13 = .ok (.iload_n 3, 1) := by decide +kernel
theorem dX9_tellWays_14 : decode cX9_tellWays 14 = .ok (.iload_n 1, 1) := by decide +kernel
theorem dX9_tellWays_15 : decode cX9_tellWays 15 = .ok (.if_icmp .ne 7, 3) := by decide +kernel
theorem dX9_tellWays_18 : decode cX9_tellWays 18 = .ok (.iconst 1, 1) := by decide +kernel
theorem dX9_tellWays_19 : decode cX9_tellWays 19 = .ok (.goto 4, 3) := by decide +kernel
theorem dX9_tellWays_22 : decode cX9_tellWays 22 = .ok (.iconst 0, 1) := by decide +kernel
theorem dX9_tellWays_23 : decode cX9_tellWays 23 = .ok (.iastore, 1) := by decide +kernel
theorem dX9_tellWays_24 : decode cX9_tellWays 24 = .ok (.iload_n 3, 1) := by decide +kernel
theorem dX9_tellWays_25 : decode cX9_tellWays 25 = .ok (.invokestatic 203, 3) := by decide +kernel
theorem dX9_tellWays_28 : decode cX9_tellWays 28 = .ok (.istore 4, 2) := by decide +kernel
theorem dX9_tellWays_30 : decode cX9_tellWays 30 = .ok (.iconst 0, 1) := by decide +kernel
theorem dX9_tellWays_31 : decode cX9_tellWays 31 = .ok (.istore 5, 2) := by decide +kernel
theorem dX9_tellWays_33 : decode cX9_tellWays 33 = .ok (.iload 5, 2) := by decide +kernel
theorem dX9_tellWays_35 : decode cX9_tellWays 35 = .ok (.aload_n 0, 1) := by decide +kernel
theorem dX9_tellWays_36 : decode cX9_tellWays 36 = .ok (.getfield 17, 3) := by decide +kernel
theorem dX9_tellWays_39 : decode cX9_tellWays 39 = .ok (.iconst 0, 1) := by decide +kernel
theorem dX9_tellWays_40 : decode cX9_tellWays 40 = .ok (.iaload, 1) := by decide +kernel
theorem dX9_tellWays_41 : decode cX9_tellWays 41 = .ok (.if_icmp .ge 96, 3) := by decide +kernel
theorem dX9_tellWays_44 : decode cX9_tellWays 44 = .ok (.iload 4, 2) := by decide +kernel
theorem dX9_tellWays_46 : decode cX9_tellWays 46 = .ok (.aload_n 0, 1) := by decide +kernel
theorem dX9_tellWays_47 : decode cX9_tellWays 47 = .ok (.getfield 142, 3) := by decide +kernel
theorem dX9_tellWays_50 : decode cX9_tellWays 50 = .ok (.if_icmp .ge 87, 3) := by decide +kernel
theorem dX9_tellWays_53 : decode cX9_tellWays 53 = .ok (.iload_n 1, 1) := by decide +kernel
theorem dX9_tellWays_54 : decode cX9_tellWays 54 = .ok (.iload 5, 2) := by decide +kernel
theorem dX9_tellWays_56 : decode cX9_tellWays 56 = .ok (.invokestatic 149, 3) := by decide +kernel
theorem dX9_tellWays_59 : decode cX9_tellWays 59 = .ok (.ifCond .eq 40, 3) := by decide +kernel
theorem dX9_tellWays_62 : decode cX9_tellWays 62 = .ok (.iload_n 3, 1) := by decide +kernel
theorem dX9_tellWays_63 : decode cX9_tellWays 63 = .ok (.iload 5, 2) := by decide +kernel
theorem dX9_tellWays_65 : decode cX9_tellWays 65 = .ok (.invokestatic 149, 3) := by decide +kernel
theorem dX9_tellWays_68 : decode cX9_tellWays 68 = .ok (.ifCond .ne 31, 3) := by decide +kernel
theorem dX9_tellWays_71 : decode cX9_tellWays 71 = .ok (.aload_n 0, 1) := by decide +kernel
theorem dX9_tellWays_72 : decode cX9_tellWays 72 = .ok (.iload 5, 2) := by decide +kernel
theorem dX9_tellWays_74 : decode cX9_tellWays 74 = .ok (.aload_n 0, 1) := by decide +kernel
theorem dX9_tellWays_75 : decode cX9_tellWays 75 = .ok (.getfield 29, 3) := by decide +kernel
theorem dX9_tellWays_78 : decode cX9_tellWays 78 = .ok (.iload 5, 2) := by decide +kernel
theorem dX9_tellWays_80 : decode cX9_tellWays 80 = .ok (.iaload, 1) := by decide +kernel
theorem dX9_tellWays_81 : decode cX9_tellWays 81 = .ok (.iload_n 2, 1) := by decide +kernel
theorem dX9_tellWays_82 : decode cX9_tellWays 82 = .ok (.invokevirtual 217, 3) := by decide +kernel
theorem dX9_tellWays_85 : decode cX9_tellWays 85 = .ok (.aload_n 0, 1) := by decide +kernel
theorem dX9_tellWays_86 : decode cX9_tellWays 86 = .ok (.getfield 62, 3) := by decide +kernel
theorem dX9_tellWays_89 : decode cX9_tellWays 89 = .ok (.iload 4, 2) := by decide +kernel
theorem dX9_tellWays_91 : decode cX9_tellWays 91 = .ok (.iaload, 1) := by decide +kernel
theorem dX9_tellWays_92 : decode cX9_tellWays 92 = .ok (.if_icmp .ne 7, 3) := by decide +kernel
theorem dX9_tellWays_95 : decode cX9_tellWays 95 = .ok (.iconst 1, 1) := by decide +kernel
theorem dX9_tellWays_96 : decode cX9_tellWays 96 = .ok (.goto 4, 3) := by decide +kernel
theorem dX9_tellWays_99 : decode cX9_tellWays 99 = .ok (.iconst 0, 1) := by decide +kernel
theorem dX9_tellWays_100 : decode cX9_tellWays 100 = .ok (.istore 6, 2) := by decide +kernel
theorem dX9_tellWays_102 : decode cX9_tellWays 102 = .ok (.aload_n 0, 1) := by decide +kernel
theorem dX9_tellWays_103 : decode cX9_tellWays 103 = .ok (.getfield 65, 3) := by decide +kernel
theorem dX9_tellWays_106 : decode cX9_tellWays 106 = .ok (.iload_n 3, 1) := by decide +kernel
theorem dX9_tellWays_107 : decode cX9_tellWays 107 = .ok (.dup2, 1) := by decide +kernel
theorem dX9_tellWays_108 : decode cX9_tellWays 108 = .ok (.iaload, 1) := by decide +kernel
theorem dX9_tellWays_109 : decode cX9_tellWays 109 = .ok (.iload 6, 2) := by decide +kernel
theorem dX9_tellWays_111 : decode cX9_tellWays 111 = .ok (.ifCond .eq 17, 3) := by decide +kernel
theorem dX9_tellWays_114 : decode cX9_tellWays 114 = .ok (.aload_n 0, 1) := by decide +kernel
theorem dX9_tellWays_115 : decode cX9_tellWays 115 = .ok (.getfield 65, 3) := by decide +kernel
theorem dX9_tellWays_118 : decode cX9_tellWays 118 = .ok (.iload_n 3, 1) := by decide +kernel
theorem dX9_tellWays_119 : decode cX9_tellWays 119 = .ok (.iconst 1, 1) := by decide +kernel
theorem dX9_tellWays_120 : decode cX9_tellWays 120 = .ok (.iload 5, 2) := by decide +kernel
theorem dX9_tellWays_122 : decode cX9_tellWays 122 = .ok (.ishl, 1) := by decide +kernel
theorem dX9_tellWays_123 : decode cX9_tellWays 123 = .ok (.ior, 1) := by decide +kernel
theorem dX9_tellWays_124 : decode cX9_tellWays 124 = .ok (.iaload, 1) := by decide +kernel
theorem dX9_tellWays_125 : decode cX9_tellWays 125 = .ok (.goto 4, 3) := by decide +kernel
theorem dX9_tellWays_128 : decode cX9_tellWays 128 = .ok (.iconst 0, 1) := by decide +kernel
theorem dX9_tellWays_129 : decode cX9_tellWays 129 = .ok (.iadd, 1) := by decide +kernel
theorem dX9_tellWays_130 : decode cX9_tellWays 130 = .ok (.iastore, 1) := by decide +kernel
theorem dX9_tellWays_131 : decode cX9_tellWays 131 = .ok (.iinc 5 1, 3) := by decide +kernel
theorem dX9_tellWays_134 : decode cX9_tellWays 134 = .ok (.goto (-101), 3) := by decide +kernel
theorem dX9_tellWays_137 : decode cX9_tellWays 137 = .ok (.iinc 3 (-1), 3) := by decide +kernel
theorem dX9_tellWays_140 : decode cX9_tellWays 140 = .ok (.goto (-136), 3) := by decide +kernel
theorem dX9_tellWays_143 : decode cX9_tellWays 143 = .ok (.return_, 1) := by decide +kernel
def f_M_tellWays_100 (N nx : Nat) (rec4 : Dt → Int32 → Option Dt) (rec33 : Dt → Int32 → Option Dt) (D : Dt) (P : Ft) (a0 : Nat) (i1 : Int32) (i2 : Int32) (i3 : Int32) (i4 : Int32) (i5 : Int32) (s0 : Int32) : Option Dt :=
  nn (P a0 25) fun q7 =>
  if ab nx q7 3 i3 = true then
  if s0 = 0 then
    if ab nx q7 3 i3 = true then
    pas (upd2 D q7 i3.toNatClampNeg ((D q7 i3.toNatClampNeg) + 0)) fun D9 =>
    rec33 D9 (i5 + 1)
    else none
  else
    if ab nx q7 3 (i3 ||| (1 <<< (i5 &&& 31))) = true then
    if ab nx q7 3 i3 = true then
    pas (upd2 D q7 i3.toNatClampNeg ((D q7 i3.toNatClampNeg) + (D q7 (i3 ||| (1 <<< (i5 &&& 31))).toNatClampNeg))) fun D11 =>
    rec33 D11 (i5 + 1)
    else none
    else none
  else none
def f_M_tellWays_33 (N nx : Nat) (rec4 : Dt → Int32 → Option Dt) (P : Ft) (a0 : Nat) (i1 : Int32) (i2 : Int32) (i3 : Int32) (i4 : Int32) (rec33 : Dt → Int32 → Option Dt) (D : Dt) (i5 : Int32) : Option Dt :=
  nn (P a0 3) fun q4 =>
  if ab nx q4 3 0 = true then
  if D q4 (0 : Int32).toNatClampNeg ≤ i5 then
    rec4 D (i3 + (-1))
  else
    if D a0 24 ≤ i4 then
      rec4 D (i3 + (-1))
    else
      (f_M_has N nx D P i1 i5).bind fun z6 =>
      if z6 = 0 then
        f_M_tellWays_100 N nx rec4 rec33 D P a0 i1 i2 i3 i4 i5 0
      else
        (f_M_has N nx D P i3 i5).bind fun z13 =>
        if z13 = 0 then
          nn (P a0 7) fun q14 =>
          if ab nx q14 3 i5 = true then
          (f_M_sizeBy N nx D P a0 i5 (D q14 i5.toNatClampNeg) i2).bind fun z16 =>
          nn (P a0 23) fun q17 =>
          if ab nx q17 3 i4 = true then
          if z16 = D q17 i4.toNatClampNeg then
            f_M_tellWays_100 N nx rec4 rec33 D P a0 i1 i2 i3 i4 i5 1
          else
            f_M_tellWays_100 N nx rec4 rec33 D P a0 i1 i2 i3 i4 i5 0
          else none
          else none
        else
          f_M_tellWays_100 N nx rec4 rec33 D P a0 i1 i2 i3 i4 i5 0
  else none
def f_M_tellWays_23 (N nx : Nat) (rec4 : Dt → Int32 → Option Dt) (D : Dt) (P : Ft) (a0 : Nat) (i1 : Int32) (i2 : Int32) (i3 : Int32) (s0 : Nat) (s1 : Int32) (s2 : Int32) : Option Dt :=
  if ab nx s0 3 s1 = true then
  pas (upd2 D s0 s1.toNatClampNeg s2) fun D2 =>
  (f_M_bitsOf N nx D2 P i3).bind fun z3 =>
  wk2 N (f_M_tellWays_33 N nx rec4 P a0 i1 i2 i3 z3) D2 0
  else none
def f_M_tellWays_4 (N nx : Nat) (P : Ft) (a0 : Nat) (i1 : Int32) (i2 : Int32) (rec4 : Dt → Int32 → Option Dt) (D : Dt) (i3 : Int32) : Option Dt :=
  if i3 < 0 then
    some D
  else
    nn (P a0 25) fun q1 =>
    if i3 = i1 then
      f_M_tellWays_23 N nx rec4 D P a0 i1 i2 i3 q1 i3 1
    else
      f_M_tellWays_23 N nx rec4 D P a0 i1 i2 i3 q1 i3 0
def f_M_tellWays (N nx : Nat) (D : Dt) (P : Ft) (a0 : Nat) (i1 : Int32) (i2 : Int32) : Option Dt :=
  if kd nx a0 = 9 then
  wk2 N (f_M_tellWays_4 N nx P a0 i1 i2) D 255
  else none
theorem m_M_tellWays : MV yX9_tellWays cX9_tellWays 7 none 2 := ⟨mT 1195 (by decide +kernel) rfl, mT 1194 (by decide +kernel) rfl, mT 50 (by decide +kernel) rfl, mT 68 (by decide +kernel) rfl, by decide +kernel, by decide +kernel, by decide +kernel⟩
set_option maxHeartbeats 4000000 in
set_option maxRecDepth 100000 in
theorem c_M_tellWays (l : Launch) (cx : Cx) (nx N : Nat) (D : Dt) (P : Ft) (a0 : Nat) (i1 : Int32) (i2 : Int32) (z : Dt) (h : f_M_tellWays N nx D P a0 i1 i2 = some z) : Ct l cx yX9_tellWays cX9_tellWays 7 none 2 [.ref (cx.2.2 + a0), .int i1, .int i2] D P nx none z P := by
  refine x_met0 (by decide) (Nat.le_of_ble_eq_true rfl) ?_
  intro p e s m args below meth c X
  have X : XC p s m args meth c cx cX9_tellWays 7 none "HeartPinsModel" "tellWays" := X
  refine XW.sub (lv' := [(0, .ref (cx.2.2 + a0)), (1, .int i1), (2, .int i2)]) [0, 1, 2] rfl ?_
  unfold f_M_tellWays at h
  obtain ⟨hk0, h⟩ := grd h
  have hL4 : ∀ (n : Nat) (D : Dt) (i3 : Int32), wk2 n (f_M_tellWays_4 N nx P a0 i1 i2) D i3 = some z → XW p l e (rmk 2) s m args below meth c (MQ below (Qx cx none z P nx) args s 0 0 (AA cx)) cx 7 D P nx 0 0 4 [(0, .ref (cx.2.2 + a0)), (1, .int i1), (2, .int i2), (3, .int i3)] [] := by
    intro n
    induction n with
    | zero => intro D i3 h; exact (nonz h).elim
    | succ n ih4 =>
      intro D i3 h
      have h : f_M_tellWays_4 N nx P a0 i1 i2 (wk2 n (f_M_tellWays_4 N nx P a0 i1 i2)) D i3 = some z := h
      generalize wk2 n (f_M_tellWays_4 N nx P a0 i1 i2) = rec4 at ih4 h
      unfold f_M_tellWays_4 at h
      have hL33 : ∀ (i3 : Int32) (i4 : Int32) (n : Nat) (D : Dt) (i5 : Int32), wk2 n (f_M_tellWays_33 N nx rec4 P a0 i1 i2 i3 i4) D i5 = some z → XW p l e (rmk 2) s m args below meth c (MQ below (Qx cx none z P nx) args s 0 0 (AA cx)) cx 7 D P nx 0 0 33 [(0, .ref (cx.2.2 + a0)), (1, .int i1), (2, .int i2), (3, .int i3), (4, .int i4), (5, .int i5)] [] := by
        intro i3 i4 n
        induction n with
        | zero => intro D i5 h; exact (nonz h).elim
        | succ n ih33 =>
          intro D i5 h
          have h : f_M_tellWays_33 N nx rec4 P a0 i1 i2 i3 i4 (wk2 n (f_M_tellWays_33 N nx rec4 P a0 i1 i2 i3 i4)) D i5 = some z := h
          generalize wk2 n (f_M_tellWays_33 N nx rec4 P a0 i1 i2 i3 i4) = rec33 at ih33 h
          unfold f_M_tellWays_33 at h
          have hJ100 : ∀ (D : Dt) (i5 : Int32) (s0 : Int32), f_M_tellWays_100 N nx rec4 rec33 D P a0 i1 i2 i3 i4 i5 s0 = some z → XW p l e (rmk 2) s m args below meth c (MQ below (Qx cx none z P nx) args s 0 0 (AA cx)) cx 7 D P nx 0 0 100 [(0, .ref (cx.2.2 + a0)), (1, .int i1), (2, .int i2), (3, .int i3), (4, .int i4), (5, .int i5)] [.int s0] := by
            intro D i5 s0 h
            unfold f_M_tellWays_100 at h
            refine x_istore (lv' := [(6, .int s0), (0, .ref (cx.2.2 + a0)), (1, .int i1), (2, .int i2), (3, .int i3), (4, .int i4), (5, .int i5)]) (pc := 100) X dX9_tellWays_100 (by decide) rfl ?_
            refine x_aload_n (pc := 102) X dX9_tellWays_102 (i := 0) rfl 1 rfl ?_
            obtain ⟨q7, e7, h⟩ := nns h
            refine x_getr (ci := 9) (k := 25) (n := 26) (C := RX9) (T := TX9) (pc := 103) X dX9_tellWays_103 hk0 rfl (by decide) w_914 rfl e7 ?_
            refine x_iload_n (pc := 106) X dX9_tellWays_106 (i := 3) rfl 4 rfl ?_
            refine x_dup2 (pc := 107) X dX9_tellWays_107 rfl rfl ?_
            obtain ⟨g8, h⟩ := grd h
            refine x_iald (pc := 108) X dX9_tellWays_108 g8 ?_
            refine x_iload (pc := 109) X dX9_tellWays_109 0 rfl ?_
            refine x_if_eq (tgt := 128) (pc := 111) X dX9_tellWays_111 (by decide) (fun c12 => ?_) (fun c12 => ?_)
            · have h := ite_t c12 h
              refine x_iconst (v := 0) (pc := 128) X dX9_tellWays_128 (by decide) ?_
              refine x_iadd (pc := 129) X dX9_tellWays_129 ?_
              obtain ⟨g9, h⟩ := grd h
              obtain ⟨D9, w9, h⟩ := pass h
              refine x_iast (D' := D9) (pc := 130) X dX9_tellWays_130 g9 w9 ?_
              refine x_iinc (v := i5 + 1) (lv' := [(5, .int (i5 + 1)), (6, .int s0), (0, .ref (cx.2.2 + a0)), (1, .int i1), (2, .int i2), (3, .int i3), (4, .int i4)]) (pc := 131) X dX9_tellWays_131 6 rfl rfl (by decide) rfl ?_
              refine x_goto (tgt := 33) (pc := 134) X dX9_tellWays_134 (by decide) ?_
              exact XW.sub [2, 3, 4, 5, 6, 0] rfl (ih33 _ _ h)
            · have h := ite_f c12 h
              refine x_aload_n (pc := 114) X dX9_tellWays_114 (i := 0) rfl 1 rfl ?_
              refine x_getr (ci := 9) (k := 25) (n := 26) (C := RX9) (T := TX9) (pc := 115) X dX9_tellWays_115 hk0 rfl (by decide) w_914 rfl e7 ?_
              refine x_iload_n (pc := 118) X dX9_tellWays_118 (i := 3) rfl 4 rfl ?_
              refine x_iconst (v := 1) (pc := 119) X dX9_tellWays_119 (by decide) ?_
              refine x_iload (pc := 120) X dX9_tellWays_120 6 rfl ?_
              refine x_ishl (pc := 122) X dX9_tellWays_122 ?_
              refine x_ior (pc := 123) X dX9_tellWays_123 ?_
              obtain ⟨g10, h⟩ := grd h
              refine x_iald (pc := 124) X dX9_tellWays_124 g10 ?_
              refine x_goto (tgt := 129) (pc := 125) X dX9_tellWays_125 (by decide) ?_
              refine x_iadd (pc := 129) X dX9_tellWays_129 ?_
              obtain ⟨g11, h⟩ := grd h
              obtain ⟨D11, w11, h⟩ := pass h
              refine x_iast (D' := D11) (pc := 130) X dX9_tellWays_130 g11 w11 ?_
              refine x_iinc (v := i5 + 1) (lv' := [(5, .int (i5 + 1)), (6, .int s0), (0, .ref (cx.2.2 + a0)), (1, .int i1), (2, .int i2), (3, .int i3), (4, .int i4)]) (pc := 131) X dX9_tellWays_131 6 rfl rfl (by decide) rfl ?_
              refine x_goto (tgt := 33) (pc := 134) X dX9_tellWays_134 (by decide) ?_
              exact XW.sub [2, 3, 4, 5, 6, 0] rfl (ih33 _ _ h)
          refine x_iload (pc := 33) X dX9_tellWays_33 5 rfl ?_
          refine x_aload_n (pc := 35) X dX9_tellWays_35 (i := 0) rfl 0 rfl ?_
          obtain ⟨q4, e4, h⟩ := nns h
          refine x_getr (ci := 9) (k := 3) (n := 26) (C := RX9) (T := TX9) (pc := 36) X dX9_tellWays_36 hk0 rfl (by decide) w_892 rfl e4 ?_
          refine x_iconst (v := 0) (pc := 39) X dX9_tellWays_39 (by decide) ?_
          obtain ⟨g5, h⟩ := grd h
          refine x_iald (pc := 40) X dX9_tellWays_40 g5 ?_
          refine x_icmp_ge (tgt := 137) (pc := 41) X dX9_tellWays_41 (by decide) (fun c23 => ?_) (fun c23 => ?_)
          · have h := ite_t c23 h
            refine x_iinc (v := i3 + (-1)) (lv' := [(3, .int (i3 + (-1))), (0, .ref (cx.2.2 + a0)), (1, .int i1), (2, .int i2), (4, .int i4), (5, .int i5)]) (pc := 137) X dX9_tellWays_137 3 rfl rfl (by decide) rfl ?_
            refine x_goto (tgt := 4) (pc := 140) X dX9_tellWays_140 (by decide) ?_
            exact XW.sub [1, 2, 3, 0] rfl (ih4 _ _ h)
          · have h := ite_f c23 h
            refine x_iload (pc := 44) X dX9_tellWays_44 4 rfl ?_
            refine x_aload_n (pc := 46) X dX9_tellWays_46 (i := 0) rfl 0 rfl ?_
            refine x_geti (ci := 9) (k := 24) (n := 26) (C := RX9) (T := TX9) (pc := 47) X dX9_tellWays_47 hk0 rfl (by decide) w_913 rfl ?_
            refine x_icmp_ge (tgt := 137) (pc := 50) X dX9_tellWays_50 (by decide) (fun c22 => ?_) (fun c22 => ?_)
            · have h := ite_t c22 h
              refine x_iinc (v := i3 + (-1)) (lv' := [(3, .int (i3 + (-1))), (0, .ref (cx.2.2 + a0)), (1, .int i1), (2, .int i2), (4, .int i4), (5, .int i5)]) (pc := 137) X dX9_tellWays_137 3 rfl rfl (by decide) rfl ?_
              refine x_goto (tgt := 4) (pc := 140) X dX9_tellWays_140 (by decide) ?_
              exact XW.sub [1, 2, 3, 0] rfl (ih4 _ _ h)
            · have h := ite_f c22 h
              refine x_iload_n (pc := 53) X dX9_tellWays_53 (i := 1) rfl 1 rfl ?_
              refine x_iload (pc := 54) X dX9_tellWays_54 5 rfl ?_
              obtain ⟨z6, e6, h⟩ := bnds h
              refine x_callS (pc := 56) (As := [.int i1, .int i5]) (st := []) (st' := [.int z6]) X (c_M_has l cx nx N D P _ _ z6 e6) dX9_tellWays_56 w_1043 m_M_has rfl ⟨by decide, by decide⟩ ⟨Nat.zero_le _, Nat.zero_le _⟩ rfl (Nat.le_of_ble_eq_true rfl) rfl ?_
              refine x_if_eq (tgt := 99) (pc := 59) X dX9_tellWays_59 (by decide) (fun c21 => ?_) (fun c21 => ?_)
              · have h := ite_t c21 h
                refine x_iconst (v := 0) (pc := 99) X dX9_tellWays_99 (by decide) ?_
                exact XW.sub [0, 1, 2, 3, 4, 5] rfl (hJ100 _ _ _ h)
              · have h := ite_f c21 h
                refine x_iload_n (pc := 62) X dX9_tellWays_62 (i := 3) rfl 3 rfl ?_
                refine x_iload (pc := 63) X dX9_tellWays_63 5 rfl ?_
                obtain ⟨z13, e13, h⟩ := bnds h
                refine x_callS (pc := 65) (As := [.int i3, .int i5]) (st := []) (st' := [.int z13]) X (c_M_has l cx nx N D P _ _ z13 e13) dX9_tellWays_65 w_1043 m_M_has rfl ⟨by decide, by decide⟩ ⟨Nat.zero_le _, Nat.zero_le _⟩ rfl (Nat.le_of_ble_eq_true rfl) rfl ?_
                refine x_if_ne (tgt := 99) (pc := 68) X dX9_tellWays_68 (by decide) (fun c20 => ?_) (fun c20 => ?_)
                · have h := ite_f c20 h
                  refine x_iconst (v := 0) (pc := 99) X dX9_tellWays_99 (by decide) ?_
                  exact XW.sub [0, 1, 2, 3, 4, 5] rfl (hJ100 _ _ _ h)
                · have h := ite_t c20 h
                  refine x_aload_n (pc := 71) X dX9_tellWays_71 (i := 0) rfl 0 rfl ?_
                  refine x_iload (pc := 72) X dX9_tellWays_72 5 rfl ?_
                  refine x_aload_n (pc := 74) X dX9_tellWays_74 (i := 0) rfl 0 rfl ?_
                  obtain ⟨q14, e14, h⟩ := nns h
                  refine x_getr (ci := 9) (k := 7) (n := 26) (C := RX9) (T := TX9) (pc := 75) X dX9_tellWays_75 hk0 rfl (by decide) w_896 rfl e14 ?_
                  refine x_iload (pc := 78) X dX9_tellWays_78 5 rfl ?_
                  obtain ⟨g15, h⟩ := grd h
                  refine x_iald (pc := 80) X dX9_tellWays_80 g15 ?_
                  refine x_iload_n (pc := 81) X dX9_tellWays_81 (i := 2) rfl 2 rfl ?_
                  obtain ⟨z16, e16, h⟩ := bnds h
                  refine x_callV (pc := 82) (As := [.int i5, .int (D q14 i5.toNatClampNeg), .int i2]) (st := []) (st' := [.int z16]) X (c_M_sizeBy l cx nx N D P _ _ _ _ z16 e16) dX9_tellWays_82 w_1184 m_M_sizeBy rfl hk0 (ci := 9) rfl rfl ⟨by decide, by decide⟩ ⟨Nat.zero_le _, Nat.zero_le _⟩ rfl (Nat.le_of_ble_eq_true rfl) rfl ?_
                  refine x_aload_n (pc := 85) X dX9_tellWays_85 (i := 0) rfl 0 rfl ?_
                  obtain ⟨q17, e17, h⟩ := nns h
                  refine x_getr (ci := 9) (k := 23) (n := 26) (C := RX9) (T := TX9) (pc := 86) X dX9_tellWays_86 hk0 rfl (by decide) w_912 rfl e17 ?_
                  refine x_iload (pc := 89) X dX9_tellWays_89 4 rfl ?_
                  obtain ⟨g18, h⟩ := grd h
                  refine x_iald (pc := 91) X dX9_tellWays_91 g18 ?_
                  refine x_icmp_ne (tgt := 99) (pc := 92) X dX9_tellWays_92 (by decide) (fun c19 => ?_) (fun c19 => ?_)
                  · have h := ite_f c19 h
                    refine x_iconst (v := 0) (pc := 99) X dX9_tellWays_99 (by decide) ?_
                    exact XW.sub [0, 1, 2, 3, 4, 5] rfl (hJ100 _ _ _ h)
                  · have h := ite_t c19 h
                    refine x_iconst (v := 1) (pc := 95) X dX9_tellWays_95 (by decide) ?_
                    refine x_goto (tgt := 100) (pc := 96) X dX9_tellWays_96 (by decide) ?_
                    exact XW.sub [0, 1, 2, 3, 4, 5] rfl (hJ100 _ _ _ h)
      have hJ23 : ∀ (D : Dt) (i3 : Int32) (s0 : Nat) (s1 : Int32) (s2 : Int32), f_M_tellWays_23 N nx rec4 D P a0 i1 i2 i3 s0 s1 s2 = some z → XW p l e (rmk 2) s m args below meth c (MQ below (Qx cx none z P nx) args s 0 0 (AA cx)) cx 7 D P nx 0 0 23 [(0, .ref (cx.2.2 + a0)), (1, .int i1), (2, .int i2), (3, .int i3)] [.int s2, .int s1, .ref (cx.2.2 + s0)] := by
        intro D i3 s0 s1 s2 h
        unfold f_M_tellWays_23 at h
        obtain ⟨g2, h⟩ := grd h
        obtain ⟨D2, w2, h⟩ := pass h
        refine x_iast (D' := D2) (pc := 23) X dX9_tellWays_23 g2 w2 ?_
        refine x_iload_n (pc := 24) X dX9_tellWays_24 (i := 3) rfl 3 rfl ?_
        obtain ⟨z3, e3, h⟩ := bnds h
        refine x_callS (pc := 25) (As := [.int i3]) (st := []) (st' := [.int z3]) X (c_M_bitsOf l cx nx N D2 P _ z3 e3) dX9_tellWays_25 w_1136 m_M_bitsOf rfl ⟨by decide, by decide⟩ ⟨Nat.zero_le _, Nat.zero_le _⟩ rfl (Nat.le_of_ble_eq_true rfl) rfl ?_
        refine x_istore (lv' := [(4, .int z3), (0, .ref (cx.2.2 + a0)), (1, .int i1), (2, .int i2), (3, .int i3)]) (pc := 28) X dX9_tellWays_28 (by decide) rfl ?_
        refine x_iconst (v := 0) (pc := 30) X dX9_tellWays_30 (by decide) ?_
        refine x_istore (lv' := [(5, .int 0), (4, .int z3), (0, .ref (cx.2.2 + a0)), (1, .int i1), (2, .int i2), (3, .int i3)]) (pc := 31) X dX9_tellWays_31 (by decide) rfl ?_
        exact XW.sub [2, 3, 4, 5, 1, 0] rfl (hL33 _ _ _ _ _ h)
      refine x_iload_n (pc := 4) X dX9_tellWays_4 (i := 3) rfl 3 rfl ?_
      refine x_if_lt (tgt := 143) (pc := 5) X dX9_tellWays_5 (by decide) (fun c25 => ?_) (fun c25 => ?_)
      · have h := ite_t c25 h
        obtain rfl := Option.some.inj h
        exact x_vret (pc := 143) X dX9_tellWays_143
      · have h := ite_f c25 h
        refine x_aload_n (pc := 8) X dX9_tellWays_8 (i := 0) rfl 0 rfl ?_
        obtain ⟨q1, e1, h⟩ := nns h
        refine x_getr (ci := 9) (k := 25) (n := 26) (C := RX9) (T := TX9) (pc := 9) X dX9_tellWays_9 hk0 rfl (by decide) w_914 rfl e1 ?_
        refine x_iload_n (pc := 12) X dX9_tellWays_12 (i := 3) rfl 3 rfl ?_
        refine x_iload_n (pc := 13) X dX9_tellWays_13 (i := 3) rfl 3 rfl ?_
        refine x_iload_n (pc := 14) X dX9_tellWays_14 (i := 1) rfl 1 rfl ?_
        refine x_icmp_ne (tgt := 22) (pc := 15) X dX9_tellWays_15 (by decide) (fun c24 => ?_) (fun c24 => ?_)
        · have h := ite_f c24 h
          refine x_iconst (v := 0) (pc := 22) X dX9_tellWays_22 (by decide) ?_
          exact XW.sub [0, 1, 2, 3] rfl (hJ23 _ _ _ _ _ h)
        · have h := ite_t c24 h
          refine x_iconst (v := 1) (pc := 18) X dX9_tellWays_18 (by decide) ?_
          refine x_goto (tgt := 23) (pc := 19) X dX9_tellWays_19 (by decide) ?_
          exact XW.sub [0, 1, 2, 3] rfl (hJ23 _ _ _ _ _ h)
  refine x_sipush (v := 255) (pc := 0) X dX9_tellWays_0 (by decide) ?_
  refine x_istore_n (lv' := [(3, .int 255), (0, .ref (cx.2.2 + a0)), (1, .int i1), (2, .int i2)]) (pc := 3) X dX9_tellWays_3 (i := 3) rfl (by decide) rfl ?_
  exact XW.sub [1, 2, 3, 0] rfl (hL4 _ _ _ h)
theorem dX9_which_0 : decode cX9_which 0 = .ok (.iload_n 1, 1) := by decide +kernel
theorem dX9_which_1 : decode cX9_which 1 = .ok (.iconst 0, 1) := by decide +kernel
theorem dX9_which_2 : decode cX9_which 2 = .ok (.bipush 20, 2) := by decide +kernel
theorem dX9_which_4 : decode cX9_which 4 = .ok (.invokestatic 74, 3) := by decide +kernel
theorem dX9_which_7 : decode cX9_which 7 = .ok (.ifCond .eq 13, 3) := by decide +kernel
theorem dX9_which_10 : decode cX9_which 10 = .ok (.iload_n 2, 1) := by decide +kernel
theorem dX9_which_11 : decode cX9_which 11 = .ok (.iconst (-1), 1) := by decide +kernel
theorem dX9_which_12 : decode cX9_which 12 = .ok (.bipush 7, 2) := by decide +kernel
theorem dX9_which_14 : decode cX9_which 14 = .ok (.invokestatic 74, 3) := by decide +kernel
theorem dX9_which_17 : decode cX9_which 17 = .ok (.ifCond .ne 5, 3) := by decide +kernel
theorem dX9_which_20 : decode cX9_which 20 = .ok (.iconst (-1), 1) := by decide +kernel
theorem dX9_which_21 : decode cX9_which 21 = .ok (.ireturn, 1) := by decide +kernel
theorem dX9_which_22 : decode cX9_which 22 = .ok (.aload_n 0, 1) := by decide +kernel
theorem dX9_which_23 : decode cX9_which 23 = .ok (.aload_n 0, 1) := by decide +kernel
theorem dX9_which_24 : decode cX9_which 24 = .ok (.getfield 35, 3) := by decide +kernel
theorem dX9_which_27 : decode cX9_which 27 = .ok (.invokevirtual 201, 3) := by decide +kernel
theorem dX9_which_30 : decode cX9_which 30 = .ok (.istore_n 3, 1) := by decide +kernel
theorem dX9_which_31 : decode cX9_which 31 = .ok (.iload_n 3, 1) := by decide +kernel
theorem dX9_which_32 : decode cX9_which 32 = .ok (.invokestatic 203, 3) := by decide +kernel
theorem dX9_which_35 : decode cX9_which 35 = .ok (.aload_n 0, 1) := by decide +kernel
theorem dX9_which_36 : decode cX9_which 36 = .ok (.getfield 142, 3) := by decide +kernel
theorem dX9_which_39 : decode cX9_which 39 = .ok (.if_icmp .eq 15, 3) := by decide +kernel
theorem dX9_which_42 : decode cX9_which 42 = .ok (.iload_n 2, 1) := by decide +kernel
theorem dX9_which_43 : decode cX9_which 43 = .ok (.iconst (-1), 1) := by decide +kernel
theorem dX9_which_44 : decode cX9_which 44 = .ok (.if_icmp .ne 7, 3) := by decide +kernel
theorem dX9_which_47 : decode cX9_which 47 = .ok (.iconst 0, 1) := by decide +kernel
theorem dX9_which_48 : decode cX9_which 48 = .ok (.goto 5, 3) := by decide +kernel
theorem dX9_which_51 : decode cX9_which 51 = .ok (.bipush (-4), 2) := by decide +kernel
theorem dX9_which_53 : decode cX9_which 53 = .ok (.ireturn, 1) := by decide +kernel
theorem dX9_which_54 : decode cX9_which 54 = .ok (.aload_n 0, 1) := by decide +kernel
theorem dX9_which_55 : decode cX9_which 55 = .ok (.iload_n 3, 1) := by decide +kernel
theorem dX9_which_56 : decode cX9_which 56 = .ok (.iload_n 1, 1) := by decide +kernel
theorem dX9_which_57 : decode cX9_which 57 = .ok (.invokevirtual 220, 3) := by decide +kernel
theorem dX9_which_60 : decode cX9_which 60 = .ok (.iload_n 2, 1) := by decide +kernel
theorem dX9_which_61 : decode cX9_which 61 = .ok (.iconst (-1), 1) := by decide +kernel
theorem dX9_which_62 : decode cX9_which 62 = .ok (.if_icmp .eq 20, 3) := by decide +kernel
theorem dX9_which_65 : decode cX9_which 65 = .ok (.aload_n 0, 1) := by decide +kernel
theorem dX9_which_66 : decode cX9_which 66 = .ok (.getfield 65, 3) := by decide +kernel
theorem dX9_which_69 : decode cX9_which 69 = .ok (.iconst 0, 1) := by decide +kernel
theorem dX9_which_70 : decode cX9_which 70 = .ok (.iaload, 1) := by decide +kernel
theorem dX9_which_71 : decode cX9_which 71 = .ok (.ifCond .eq 11, 3) := by decide +kernel
theorem dX9_which_74 : decode cX9_which 74 = .ok (.iload_n 2, 1) := by decide +kernel
theorem dX9_which_75 : decode cX9_which 75 = .ok (.aload_n 0, 1) := by decide +kernel
theorem dX9_which_76 : decode cX9_which 76 = .ok (.getfield 142, 3) := by decide +kernel
theorem dX9_which_79 : decode cX9_which 79 = .ok (.if_icmp .lt 20, 3) := by decide +kernel
theorem dX9_which_82 : decode cX9_which 82 = .ok (.iload_n 2, 1) := by decide +kernel
theorem dX9_which_83 : decode cX9_which 83 = .ok (.iconst (-1), 1) := by decide +kernel
theorem dX9_which_84 : decode cX9_which 84 = .ok (.if_icmp .ne 12, 3) := by decide +kernel
theorem dX9_which_87 : decode cX9_which 87 = .ok (.aload_n 0, 1) := by decide +kernel
theorem dX9_which_88 : decode cX9_which 88 = .ok (.getfield 65, 3) := by decide +kernel
theorem dX9_which_91 : decode cX9_which 91 = .ok (.iconst 0, 1) := by decide +kernel
theorem dX9_which_92 : decode cX9_which 92 = .ok (.iaload, 1) := by decide +kernel
theorem dX9_which_93 : decode cX9_which 93 = .ok (.goto 5, 3) := by decide +kernel
theorem dX9_which_96 : decode cX9_which 96 = .ok (.bipush (-4), 2) := by decide +kernel
theorem dX9_which_98 : decode cX9_which 98 = .ok (.ireturn, 1) := by decide +kernel
theorem dX9_which_99 : decode cX9_which 99 = .ok (.iconst 0, 1) := by decide +kernel
theorem dX9_which_100 : decode cX9_which 100 = .ok (.istore 4, 2) := by decide +kernel
theorem dX9_which_102 : decode cX9_which 102 = .ok (.bipush (-4), 2) := by decide +kernel
theorem dX9_which_104 : decode cX9_which 104 = .ok (.istore 5, 2) := by decide +kernel
theorem dX9_which_106 : decode cX9_which 106 = .ok (.iconst 0, 1) := by decide +kernel
theorem dX9_which_107 : decode cX9_which 107 = .ok (.istore 6, 2) := by decide +kernel
theorem dX9_which_109 : decode cX9_which 109 = .ok (.iload 6, 2) := by decide +kernel
theorem dX9_which_111 : decode cX9_which 111 = .ok (.iload_n 2, 1) := by decide +kernel
theorem dX9_which_112 : decode cX9_which 112 = .ok (.if_icmp .gt 118, 3) := by decide +kernel
theorem dX9_which_115 : decode cX9_which 115 = .ok (.aload_n 0, 1) := by decide +kernel
theorem dX9_which_116 : decode cX9_which 116 = .ok (.getfield 17, 3) := by decide +kernel
theorem dX9_which_119 : decode cX9_which 119 = .ok (.iconst 0, 1) := by decide +kernel
theorem dX9_which_120 : decode cX9_which 120 = .ok (.iaload, 1) := by decide +kernel
theorem dX9_which_121 : decode cX9_which 121 = .ok (.iconst 1, 1) := by decide +kernel
theorem dX9_which_122 : decode cX9_which 122 = .ok (.isub, 1) := by decide +kernel
theorem dX9_which_123 : decode cX9_which 123 = .ok (.istore 7, 2) := by decide +kernel
theorem dX9_which_125 : decode cX9_which 125 = .ok (.iload 7, 2) := by decide +kernel
theorem dX9_which_127 : decode cX9_which 127 = .ok (.ifCond .lt 88, 3) := by decide +kernel
theorem dX9_which_130 : decode cX9_which 130 = .ok (.iload_n 3, 1) := by decide +kernel
theorem dX9_which_131 : decode cX9_which 131 = .ok (.iload 7, 2) := by decide +kernel
theorem dX9_which_133 : decode cX9_which 133 = .ok (.invokestatic 149, 3) := by decide +kernel
theorem dX9_which_136 : decode cX9_which 136 = .ok (.ifCond .eq 41, 3) := by decide +kernel
theorem dX9_which_139 : decode cX9_which 139 = .ok (.iload 4, 2) := by decide +kernel
theorem dX9_which_141 : decode cX9_which 141 = .ok (.iload 7, 2) := by decide +kernel
theorem dX9_which_143 : decode cX9_which 143 = .ok (.invokestatic 149, 3) := by decide +kernel
theorem dX9_which_146 : decode cX9_which 146 = .ok (.ifCond .ne 31, 3) := by decide +kernel
theorem dX9_which_149 : decode cX9_which 149 = .ok (.aload_n 0, 1) := by decide +kernel
theorem dX9_which_150 : decode cX9_which 150 = .ok (.iload 7, 2) := by decide +kernel
theorem dX9_which_152 : decode cX9_which 152 = .ok (.aload_n 0, 1) := by decide +kernel
theorem dX9_which_153 : decode cX9_which 153 = .ok (.getfield 29, 3) := by decide +kernel
theorem dX9_which_156 : decode cX9_which 156 = .ok (.iload 7, 2) := by decide +kernel
theorem dX9_which_158 : decode cX9_which 158 = .ok (.iaload, 1) := by decide +kernel
theorem dX9_which_159 : decode cX9_which 159 = .ok (.iload_n 1, 1) := by decide +kernel
theorem dX9_which_160 : decode cX9_which 160 = .ok (.invokevirtual 217, 3) := by decide +kernel
theorem dX9_which_163 : decode cX9_which 163 = .ok (.aload_n 0, 1) := by decide +kernel
theorem dX9_which_164 : decode cX9_which 164 = .ok (.getfield 62, 3) := by decide +kernel
theorem dX9_which_167 : decode cX9_which 167 = .ok (.iload 6, 2) := by decide +kernel
theorem dX9_which_169 : decode cX9_which 169 = .ok (.iaload, 1) := by decide +kernel
theorem dX9_which_170 : decode cX9_which 170 = .ok (.if_icmp .ne 7, 3) := by decide +kernel
theorem dX9_which_173 : decode cX9_which 173 = .ok (.iconst 1, 1) := by decide +kernel
theorem dX9_which_174 : decode cX9_which 174 = .ok (.goto 4, 3) := by decide +kernel
theorem dX9_which_177 : decode cX9_which 177 = .ok (.iconst 0, 1) := by decide +kernel
theorem dX9_which_178 : decode cX9_which 178 = .ok (.istore 8, 2) := by decide +kernel
theorem dX9_which_180 : decode cX9_which 180 = .ok (.iload 8, 2) := by decide +kernel
theorem dX9_which_182 : decode cX9_which 182 = .ok (.ifCond .eq 23, 3) := by decide +kernel
theorem dX9_which_185 : decode cX9_which 185 = .ok (.aload_n 0, 1) := by decide +kernel
theorem dX9_which_186 : decode cX9_which 186 = .ok (.getfield 65, 3) := by decide +kernel
theorem dX9_which_189 : decode cX9_which 189 = .ok (.iload 4, 2) := by decide +kernel
theorem dX9_which_191 : decode cX9_which 191 = .ok (.iconst 1, 1) := by decide +kernel
theorem dX9_which_192 : decode cX9_which 192 = .ok (.iload 7, 2) := by decide +kernel
theorem dX9_which_194 : decode cX9_which 194 = .ok (.ishl, 1) := by decide +kernel
theorem dX9_which_195 : decode cX9_which 195 = .ok (.ior, 1) := by decide +kernel
theorem dX9_which_196 : decode cX9_which 196 = .ok (.iaload, 1) := by decide +kernel
theorem dX9_which_197 : decode cX9_which 197 = .ok (.ifCond .le 8, 3) := by decide +kernel
theorem dX9_which_200 : decode cX9_which 200 = .ok (.iload 7, 2) := by decide +kernel
theorem dX9_which_202 : decode cX9_which 202 = .ok (.goto 5, 3) := by decide +kernel
theorem dX9_which_205 : decode cX9_which 205 = .ok (.iload 5, 2) := by decide +kernel
theorem dX9_which_207 : decode cX9_which 207 = .ok (.istore 5, 2) := by decide +kernel
theorem dX9_which_209 : decode cX9_which 209 = .ok (.iinc 7 (-1), 3) := by decide +kernel
theorem dX9_which_212 : decode cX9_which 212 = .ok (.goto (-87), 3) := by decide +kernel
theorem dX9_which_215 : decode cX9_which 215 = .ok (.iload 4, 2) := by decide +kernel
theorem dX9_which_217 : decode cX9_which 217 = .ok (.iconst 1, 1) := by decide +kernel
theorem dX9_which_218 : decode cX9_which 218 = .ok (.iload 5, 2) := by decide +kernel
theorem dX9_which_220 : decode cX9_which 220 = .ok (.ishl, 1) := by decide +kernel
theorem dX9_which_221 : decode cX9_which 221 = .ok (.ior, 1) := by decide +kernel
theorem dX9_which_222 : decode cX9_which 222 = .ok (.istore 4, 2) := by decide +kernel
theorem dX9_which_224 : decode cX9_which 224 = .ok (.iinc 6 1, 3) := by decide +kernel
theorem dX9_which_227 : decode cX9_which 227 = .ok (.goto (-118), 3) := by decide +kernel
theorem dX9_which_230 : decode cX9_which 230 = .ok (.iload 5, 2) := by decide +kernel
theorem dX9_which_232 : decode cX9_which 232 = .ok (.ireturn, 1) := by decide +kernel
def f_M_which_178 (N nx : Nat) (rec109 : Int32 → Int32 → Int32 → Option (Int32 × Dt)) (rec125 : Int32 → Int32 → Option (Int32 × Dt)) (D : Dt) (P : Ft) (a0 : Nat) (i1 : Int32) (i2 : Int32) (i3 : Int32) (i4 : Int32) (i5 : Int32) (i6 : Int32) (i7 : Int32) (s0 : Int32) : Option (Int32 × Dt) :=
  if s0 = 0 then
    rec125 i5 (i7 + (-1))
  else
    nn (P a0 25) fun q15 =>
    if ab nx q15 3 (i4 ||| (1 <<< (i7 &&& 31))) = true then
    if D q15 (i4 ||| (1 <<< (i7 &&& 31))).toNatClampNeg ≤ 0 then
      rec125 i5 (i7 + (-1))
    else
      rec125 i7 (i7 + (-1))
    else none
def f_M_which_125 (N nx : Nat) (rec109 : Int32 → Int32 → Int32 → Option (Int32 × Dt)) (D : Dt) (P : Ft) (a0 : Nat) (i1 : Int32) (i2 : Int32) (i3 : Int32) (i4 : Int32) (i6 : Int32) (rec125 : Int32 → Int32 → Option (Int32 × Dt)) (i5 : Int32) (i7 : Int32) : Option (Int32 × Dt) :=
  if i7 < 0 then
    rec109 (i4 ||| (1 <<< (i5 &&& 31))) i5 (i6 + 1)
  else
    (f_M_has N nx D P i3 i7).bind fun z14 =>
    if z14 = 0 then
      f_M_which_178 N nx rec109 rec125 D P a0 i1 i2 i3 i4 i5 i6 i7 0
    else
      (f_M_has N nx D P i4 i7).bind fun z19 =>
      if z19 = 0 then
        nn (P a0 7) fun q20 =>
        if ab nx q20 3 i7 = true then
        (f_M_sizeBy N nx D P a0 i7 (D q20 i7.toNatClampNeg) i1).bind fun z22 =>
        nn (P a0 23) fun q23 =>
        if ab nx q23 3 i6 = true then
        if z22 = D q23 i6.toNatClampNeg then
          f_M_which_178 N nx rec109 rec125 D P a0 i1 i2 i3 i4 i5 i6 i7 1
        else
          f_M_which_178 N nx rec109 rec125 D P a0 i1 i2 i3 i4 i5 i6 i7 0
        else none
        else none
      else
        f_M_which_178 N nx rec109 rec125 D P a0 i1 i2 i3 i4 i5 i6 i7 0
def f_M_which_109 (N nx : Nat) (D : Dt) (P : Ft) (a0 : Nat) (i1 : Int32) (i2 : Int32) (i3 : Int32) (rec109 : Int32 → Int32 → Int32 → Option (Int32 × Dt)) (i4 : Int32) (i5 : Int32) (i6 : Int32) : Option (Int32 × Dt) :=
  if i2 < i6 then
    some (i5, D)
  else
    nn (P a0 3) fun q12 =>
    if ab nx q12 3 0 = true then
    wk2 N (f_M_which_125 N nx rec109 D P a0 i1 i2 i3 i4 i6) i5 ((D q12 (0 : Int32).toNatClampNeg) - 1)
    else none
def f_M_which_82 (N nx : Nat) (D : Dt) (P : Ft) (a0 : Nat) (i2 : Int32) : Option (Int32 × Dt) :=
  if i2 = (-1) then
    nn (P a0 25) fun q7 =>
    if ab nx q7 3 0 = true then
    some (D q7 (0 : Int32).toNatClampNeg, D)
    else none
  else
    some ((-4), D)
def f_M_which (N nx : Nat) (D : Dt) (P : Ft) (a0 : Nat) (i1 : Int32) (i2 : Int32) : Option (Int32 × Dt) :=
  if kd nx a0 = 9 then
  (f_M_in N nx D P i1 0 20).bind fun z1 =>
  if z1 = 0 then
    some ((-1), D)
  else
    (f_M_in N nx D P i2 (-1) 7).bind fun z2 =>
    if z2 = 0 then
      some ((-1), D)
    else
      nn (P a0 11) fun q3 =>
      (f_M_borne N nx D P a0 q3).bind fun z4 =>
      (f_M_bitsOf N nx D P z4).bind fun z5 =>
      if z5 = D a0 24 then
        (f_M_tellWays N nx D P a0 z4 i1).bind fun z6 =>
        if i2 = (-1) then
          f_M_which_82 N nx z6 P a0 i2
        else
          nn (P a0 25) fun q10 =>
          if ab nx q10 3 0 = true then
          if z6 q10 (0 : Int32).toNatClampNeg = 0 then
            f_M_which_82 N nx z6 P a0 i2
          else
            if i2 < z6 a0 24 then
              wk3 N (f_M_which_109 N nx z6 P a0 i1 i2 z4) 0 (-4) 0
            else
              f_M_which_82 N nx z6 P a0 i2
          else none
      else
        if i2 = (-1) then
          some (0, D)
        else
          some ((-4), D)
  else none
theorem m_M_which : MV yX9_which cX9_which 9 (some .int) 2 := ⟨mT 1191 (by decide +kernel) rfl, mT 1189 (by decide +kernel) rfl, mT 1190 (by decide +kernel) rfl, mT 68 (by decide +kernel) rfl, by decide +kernel, by decide +kernel, by decide +kernel⟩
set_option maxHeartbeats 4000000 in
set_option maxRecDepth 100000 in
theorem c_M_which (l : Launch) (cx : Cx) (nx N : Nat) (D : Dt) (P : Ft) (a0 : Nat) (i1 : Int32) (i2 : Int32) (z : Int32 × Dt) (h : f_M_which N nx D P a0 i1 i2 = some z) : Ct l cx yX9_which cX9_which 9 (some .int) 3 [.ref (cx.2.2 + a0), .int i1, .int i2] D P nx (some (.int z.1)) z.2 P := by
  refine x_met0 (by decide) (Nat.le_of_ble_eq_true rfl) ?_
  intro p e s m args below meth c X
  have X : XC p s m args meth c cx cX9_which 9 (some .int) "HeartPinsModel" "which" := X
  refine XW.sub (lv' := [(0, .ref (cx.2.2 + a0)), (1, .int i1), (2, .int i2)]) [0, 1, 2] rfl ?_
  unfold f_M_which at h
  obtain ⟨hk0, h⟩ := grd h
  have hL109 : ∀ (D : Dt) (i3 : Int32) (n : Nat) (i4 : Int32) (i5 : Int32) (i6 : Int32), wk3 n (f_M_which_109 N nx D P a0 i1 i2 i3) i4 i5 i6 = some z → XW p l e (rmk 3) s m args below meth c (MQ below (Qx cx (some (.int z.1)) z.2 P nx) args s 0 0 (AA cx)) cx 9 D P nx 0 0 109 [(0, .ref (cx.2.2 + a0)), (1, .int i1), (2, .int i2), (3, .int i3), (4, .int i4), (5, .int i5), (6, .int i6)] [] := by
    intro D i3 n
    induction n with
    | zero => intro i4 i5 i6 h; exact (nonz h).elim
    | succ n ih109 =>
      intro i4 i5 i6 h
      have h : f_M_which_109 N nx D P a0 i1 i2 i3 (wk3 n (f_M_which_109 N nx D P a0 i1 i2 i3)) i4 i5 i6 = some z := h
      generalize wk3 n (f_M_which_109 N nx D P a0 i1 i2 i3) = rec109 at ih109 h
      unfold f_M_which_109 at h
      have hL125 : ∀ (i4 : Int32) (i6 : Int32) (n : Nat) (i5 : Int32) (i7 : Int32), wk2 n (f_M_which_125 N nx rec109 D P a0 i1 i2 i3 i4 i6) i5 i7 = some z → XW p l e (rmk 3) s m args below meth c (MQ below (Qx cx (some (.int z.1)) z.2 P nx) args s 0 0 (AA cx)) cx 9 D P nx 0 0 125 [(0, .ref (cx.2.2 + a0)), (1, .int i1), (2, .int i2), (3, .int i3), (4, .int i4), (5, .int i5), (6, .int i6), (7, .int i7)] [] := by
        intro i4 i6 n
        induction n with
        | zero => intro i5 i7 h; exact (nonz h).elim
        | succ n ih125 =>
          intro i5 i7 h
          have h : f_M_which_125 N nx rec109 D P a0 i1 i2 i3 i4 i6 (wk2 n (f_M_which_125 N nx rec109 D P a0 i1 i2 i3 i4 i6)) i5 i7 = some z := h
          generalize wk2 n (f_M_which_125 N nx rec109 D P a0 i1 i2 i3 i4 i6) = rec125 at ih125 h
          unfold f_M_which_125 at h
          have hJ178 : ∀ (i5 : Int32) (i7 : Int32) (s0 : Int32), f_M_which_178 N nx rec109 rec125 D P a0 i1 i2 i3 i4 i5 i6 i7 s0 = some z → XW p l e (rmk 3) s m args below meth c (MQ below (Qx cx (some (.int z.1)) z.2 P nx) args s 0 0 (AA cx)) cx 9 D P nx 0 0 178 [(0, .ref (cx.2.2 + a0)), (1, .int i1), (2, .int i2), (3, .int i3), (4, .int i4), (5, .int i5), (6, .int i6), (7, .int i7)] [.int s0] := by
            intro i5 i7 s0 h
            unfold f_M_which_178 at h
            refine x_istore (lv' := [(8, .int s0), (0, .ref (cx.2.2 + a0)), (1, .int i1), (2, .int i2), (3, .int i3), (4, .int i4), (5, .int i5), (6, .int i6), (7, .int i7)]) (pc := 178) X dX9_which_178 (by decide) rfl ?_
            refine x_iload (pc := 180) X dX9_which_180 0 rfl ?_
            refine x_if_eq (tgt := 205) (pc := 182) X dX9_which_182 (by decide) (fun c18 => ?_) (fun c18 => ?_)
            · have h := ite_t c18 h
              refine x_iload (pc := 205) X dX9_which_205 6 rfl ?_
              refine x_istore (lv' := [(5, .int i5), (8, .int s0), (0, .ref (cx.2.2 + a0)), (1, .int i1), (2, .int i2), (3, .int i3), (4, .int i4), (6, .int i6), (7, .int i7)]) (pc := 207) X dX9_which_207 (by decide) rfl ?_
              refine x_iinc (v := i7 + (-1)) (lv' := [(7, .int (i7 + (-1))), (5, .int i5), (8, .int s0), (0, .ref (cx.2.2 + a0)), (1, .int i1), (2, .int i2), (3, .int i3), (4, .int i4), (6, .int i6)]) (pc := 209) X dX9_which_209 8 rfl rfl (by decide) rfl ?_
              refine x_goto (tgt := 125) (pc := 212) X dX9_which_212 (by decide) ?_
              exact XW.sub [3, 4, 5, 6, 7, 1, 8, 0] rfl (ih125 _ _ h)
            · have h := ite_f c18 h
              refine x_aload_n (pc := 185) X dX9_which_185 (i := 0) rfl 1 rfl ?_
              obtain ⟨q15, e15, h⟩ := nns h
              refine x_getr (ci := 9) (k := 25) (n := 26) (C := RX9) (T := TX9) (pc := 186) X dX9_which_186 hk0 rfl (by decide) w_914 rfl e15 ?_
              refine x_iload (pc := 189) X dX9_which_189 5 rfl ?_
              refine x_iconst (v := 1) (pc := 191) X dX9_which_191 (by decide) ?_
              refine x_iload (pc := 192) X dX9_which_192 8 rfl ?_
              refine x_ishl (pc := 194) X dX9_which_194 ?_
              refine x_ior (pc := 195) X dX9_which_195 ?_
              obtain ⟨g16, h⟩ := grd h
              refine x_iald (pc := 196) X dX9_which_196 g16 ?_
              refine x_if_le (tgt := 205) (pc := 197) X dX9_which_197 (by decide) (fun c17 => ?_) (fun c17 => ?_)
              · have h := ite_t c17 h
                refine x_iload (pc := 205) X dX9_which_205 6 rfl ?_
                refine x_istore (lv' := [(5, .int i5), (8, .int s0), (0, .ref (cx.2.2 + a0)), (1, .int i1), (2, .int i2), (3, .int i3), (4, .int i4), (6, .int i6), (7, .int i7)]) (pc := 207) X dX9_which_207 (by decide) rfl ?_
                refine x_iinc (v := i7 + (-1)) (lv' := [(7, .int (i7 + (-1))), (5, .int i5), (8, .int s0), (0, .ref (cx.2.2 + a0)), (1, .int i1), (2, .int i2), (3, .int i3), (4, .int i4), (6, .int i6)]) (pc := 209) X dX9_which_209 8 rfl rfl (by decide) rfl ?_
                refine x_goto (tgt := 125) (pc := 212) X dX9_which_212 (by decide) ?_
                exact XW.sub [3, 4, 5, 6, 7, 1, 8, 0] rfl (ih125 _ _ h)
              · have h := ite_f c17 h
                refine x_iload (pc := 200) X dX9_which_200 8 rfl ?_
                refine x_goto (tgt := 207) (pc := 202) X dX9_which_202 (by decide) ?_
                refine x_istore (lv' := [(5, .int i7), (8, .int s0), (0, .ref (cx.2.2 + a0)), (1, .int i1), (2, .int i2), (3, .int i3), (4, .int i4), (6, .int i6), (7, .int i7)]) (pc := 207) X dX9_which_207 (by decide) rfl ?_
                refine x_iinc (v := i7 + (-1)) (lv' := [(7, .int (i7 + (-1))), (5, .int i7), (8, .int s0), (0, .ref (cx.2.2 + a0)), (1, .int i1), (2, .int i2), (3, .int i3), (4, .int i4), (6, .int i6)]) (pc := 209) X dX9_which_209 8 rfl rfl (by decide) rfl ?_
                refine x_goto (tgt := 125) (pc := 212) X dX9_which_212 (by decide) ?_
                exact XW.sub [3, 4, 5, 6, 7, 1, 8, 0] rfl (ih125 _ _ h)
          refine x_iload (pc := 125) X dX9_which_125 7 rfl ?_
          refine x_if_lt (tgt := 215) (pc := 127) X dX9_which_127 (by decide) (fun c28 => ?_) (fun c28 => ?_)
          · have h := ite_t c28 h
            refine x_iload (pc := 215) X dX9_which_215 4 rfl ?_
            refine x_iconst (v := 1) (pc := 217) X dX9_which_217 (by decide) ?_
            refine x_iload (pc := 218) X dX9_which_218 5 rfl ?_
            refine x_ishl (pc := 220) X dX9_which_220 ?_
            refine x_ior (pc := 221) X dX9_which_221 ?_
            refine x_istore (lv' := [(4, .int (i4 ||| (1 <<< (i5 &&& 31)))), (0, .ref (cx.2.2 + a0)), (1, .int i1), (2, .int i2), (3, .int i3), (5, .int i5), (6, .int i6), (7, .int i7)]) (pc := 222) X dX9_which_222 (by decide) rfl ?_
            refine x_iinc (v := i6 + 1) (lv' := [(6, .int (i6 + 1)), (4, .int (i4 ||| (1 <<< (i5 &&& 31)))), (0, .ref (cx.2.2 + a0)), (1, .int i1), (2, .int i2), (3, .int i3), (5, .int i5), (7, .int i7)]) (pc := 224) X dX9_which_224 6 rfl rfl (by decide) rfl ?_
            refine x_goto (tgt := 109) (pc := 227) X dX9_which_227 (by decide) ?_
            exact XW.sub [2, 3, 4, 5, 1, 6, 0] rfl (ih109 _ _ _ h)
          · have h := ite_f c28 h
            refine x_iload_n (pc := 130) X dX9_which_130 (i := 3) rfl 3 rfl ?_
            refine x_iload (pc := 131) X dX9_which_131 7 rfl ?_
            obtain ⟨z14, e14, h⟩ := bnds h
            refine x_callS (pc := 133) (As := [.int i3, .int i7]) (st := []) (st' := [.int z14]) X (c_M_has l cx nx N D P _ _ z14 e14) dX9_which_133 w_1043 m_M_has rfl ⟨by decide, by decide⟩ ⟨Nat.zero_le _, Nat.zero_le _⟩ rfl (Nat.le_of_ble_eq_true rfl) rfl ?_
            refine x_if_eq (tgt := 177) (pc := 136) X dX9_which_136 (by decide) (fun c27 => ?_) (fun c27 => ?_)
            · have h := ite_t c27 h
              refine x_iconst (v := 0) (pc := 177) X dX9_which_177 (by decide) ?_
              exact XW.sub [0, 1, 2, 3, 4, 5, 6, 7] rfl (hJ178 _ _ _ h)
            · have h := ite_f c27 h
              refine x_iload (pc := 139) X dX9_which_139 4 rfl ?_
              refine x_iload (pc := 141) X dX9_which_141 7 rfl ?_
              obtain ⟨z19, e19, h⟩ := bnds h
              refine x_callS (pc := 143) (As := [.int i4, .int i7]) (st := []) (st' := [.int z19]) X (c_M_has l cx nx N D P _ _ z19 e19) dX9_which_143 w_1043 m_M_has rfl ⟨by decide, by decide⟩ ⟨Nat.zero_le _, Nat.zero_le _⟩ rfl (Nat.le_of_ble_eq_true rfl) rfl ?_
              refine x_if_ne (tgt := 177) (pc := 146) X dX9_which_146 (by decide) (fun c26 => ?_) (fun c26 => ?_)
              · have h := ite_f c26 h
                refine x_iconst (v := 0) (pc := 177) X dX9_which_177 (by decide) ?_
                exact XW.sub [0, 1, 2, 3, 4, 5, 6, 7] rfl (hJ178 _ _ _ h)
              · have h := ite_t c26 h
                refine x_aload_n (pc := 149) X dX9_which_149 (i := 0) rfl 0 rfl ?_
                refine x_iload (pc := 150) X dX9_which_150 7 rfl ?_
                refine x_aload_n (pc := 152) X dX9_which_152 (i := 0) rfl 0 rfl ?_
                obtain ⟨q20, e20, h⟩ := nns h
                refine x_getr (ci := 9) (k := 7) (n := 26) (C := RX9) (T := TX9) (pc := 153) X dX9_which_153 hk0 rfl (by decide) w_896 rfl e20 ?_
                refine x_iload (pc := 156) X dX9_which_156 7 rfl ?_
                obtain ⟨g21, h⟩ := grd h
                refine x_iald (pc := 158) X dX9_which_158 g21 ?_
                refine x_iload_n (pc := 159) X dX9_which_159 (i := 1) rfl 1 rfl ?_
                obtain ⟨z22, e22, h⟩ := bnds h
                refine x_callV (pc := 160) (As := [.int i7, .int (D q20 i7.toNatClampNeg), .int i1]) (st := []) (st' := [.int z22]) X (c_M_sizeBy l cx nx N D P _ _ _ _ z22 e22) dX9_which_160 w_1184 m_M_sizeBy rfl hk0 (ci := 9) rfl rfl ⟨by decide, by decide⟩ ⟨Nat.zero_le _, Nat.zero_le _⟩ rfl (Nat.le_of_ble_eq_true rfl) rfl ?_
                refine x_aload_n (pc := 163) X dX9_which_163 (i := 0) rfl 0 rfl ?_
                obtain ⟨q23, e23, h⟩ := nns h
                refine x_getr (ci := 9) (k := 23) (n := 26) (C := RX9) (T := TX9) (pc := 164) X dX9_which_164 hk0 rfl (by decide) w_912 rfl e23 ?_
                refine x_iload (pc := 167) X dX9_which_167 6 rfl ?_
                obtain ⟨g24, h⟩ := grd h
                refine x_iald (pc := 169) X dX9_which_169 g24 ?_
                refine x_icmp_ne (tgt := 177) (pc := 170) X dX9_which_170 (by decide) (fun c25 => ?_) (fun c25 => ?_)
                · have h := ite_f c25 h
                  refine x_iconst (v := 0) (pc := 177) X dX9_which_177 (by decide) ?_
                  exact XW.sub [0, 1, 2, 3, 4, 5, 6, 7] rfl (hJ178 _ _ _ h)
                · have h := ite_t c25 h
                  refine x_iconst (v := 1) (pc := 173) X dX9_which_173 (by decide) ?_
                  refine x_goto (tgt := 178) (pc := 174) X dX9_which_174 (by decide) ?_
                  exact XW.sub [0, 1, 2, 3, 4, 5, 6, 7] rfl (hJ178 _ _ _ h)
      refine x_iload (pc := 109) X dX9_which_109 6 rfl ?_
      refine x_iload_n (pc := 111) X dX9_which_111 (i := 2) rfl 2 rfl ?_
      refine x_icmp_gt (tgt := 230) (pc := 112) X dX9_which_112 (by decide) (fun c29 => ?_) (fun c29 => ?_)
      · have h := ite_t c29 h
        refine x_iload (pc := 230) X dX9_which_230 5 rfl ?_
        obtain rfl := Option.some.inj h
        exact x_iret (pc := 232) X dX9_which_232
      · have h := ite_f c29 h
        refine x_aload_n (pc := 115) X dX9_which_115 (i := 0) rfl 0 rfl ?_
        obtain ⟨q12, e12, h⟩ := nns h
        refine x_getr (ci := 9) (k := 3) (n := 26) (C := RX9) (T := TX9) (pc := 116) X dX9_which_116 hk0 rfl (by decide) w_892 rfl e12 ?_
        refine x_iconst (v := 0) (pc := 119) X dX9_which_119 (by decide) ?_
        obtain ⟨g13, h⟩ := grd h
        refine x_iald (pc := 120) X dX9_which_120 g13 ?_
        refine x_iconst (v := 1) (pc := 121) X dX9_which_121 (by decide) ?_
        refine x_isub (pc := 122) X dX9_which_122 ?_
        refine x_istore (lv' := [(7, .int ((D q12 (0 : Int32).toNatClampNeg) - 1)), (0, .ref (cx.2.2 + a0)), (1, .int i1), (2, .int i2), (3, .int i3), (4, .int i4), (5, .int i5), (6, .int i6)]) (pc := 123) X dX9_which_123 (by decide) rfl ?_
        exact XW.sub [1, 2, 3, 4, 5, 6, 7, 0] rfl (hL125 _ _ _ _ _ h)
  have hJ82 : ∀ (D : Dt), f_M_which_82 N nx D P a0 i2 = some z → XW p l e (rmk 3) s m args below meth c (MQ below (Qx cx (some (.int z.1)) z.2 P nx) args s 0 0 (AA cx)) cx 9 D P nx 0 0 82 [(0, .ref (cx.2.2 + a0)), (2, .int i2)] [] := by
    intro D h
    unfold f_M_which_82 at h
    refine x_iload_n (pc := 82) X dX9_which_82 (i := 2) rfl 1 rfl ?_
    refine x_iconst (v := (-1)) (pc := 83) X dX9_which_83 (by decide) ?_
    refine x_icmp_ne (tgt := 96) (pc := 84) X dX9_which_84 (by decide) (fun c9 => ?_) (fun c9 => ?_)
    · have h := ite_f c9 h
      refine x_bipush (v := (-4)) (pc := 96) X dX9_which_96 (by decide) ?_
      obtain rfl := Option.some.inj h
      exact x_iret (pc := 98) X dX9_which_98
    · have h := ite_t c9 h
      refine x_aload_n (pc := 87) X dX9_which_87 (i := 0) rfl 0 rfl ?_
      obtain ⟨q7, e7, h⟩ := nns h
      refine x_getr (ci := 9) (k := 25) (n := 26) (C := RX9) (T := TX9) (pc := 88) X dX9_which_88 hk0 rfl (by decide) w_914 rfl e7 ?_
      refine x_iconst (v := 0) (pc := 91) X dX9_which_91 (by decide) ?_
      obtain ⟨g8, h⟩ := grd h
      refine x_iald (pc := 92) X dX9_which_92 g8 ?_
      refine x_goto (tgt := 98) (pc := 93) X dX9_which_93 (by decide) ?_
      obtain rfl := Option.some.inj h
      exact x_iret (pc := 98) X dX9_which_98
  refine x_iload_n (pc := 0) X dX9_which_0 (i := 1) rfl 1 rfl ?_
  refine x_iconst (v := 0) (pc := 1) X dX9_which_1 (by decide) ?_
  refine x_bipush (v := 20) (pc := 2) X dX9_which_2 (by decide) ?_
  obtain ⟨z1, e1, h⟩ := bnds h
  refine x_callS (pc := 4) (As := [.int i1, .int 0, .int 20]) (st := []) (st' := [.int z1]) X (c_M_in l cx nx N D P _ _ _ z1 e1) dX9_which_4 w_972 m_M_in rfl ⟨by decide, by decide⟩ ⟨Nat.zero_le _, Nat.zero_le _⟩ rfl (Nat.le_of_ble_eq_true rfl) rfl ?_
  refine x_if_eq (tgt := 20) (pc := 7) X dX9_which_7 (by decide) (fun c36 => ?_) (fun c36 => ?_)
  · have h := ite_t c36 h
    refine x_iconst (v := (-1)) (pc := 20) X dX9_which_20 (by decide) ?_
    obtain rfl := Option.some.inj h
    exact x_iret (pc := 21) X dX9_which_21
  · have h := ite_f c36 h
    refine x_iload_n (pc := 10) X dX9_which_10 (i := 2) rfl 2 rfl ?_
    refine x_iconst (v := (-1)) (pc := 11) X dX9_which_11 (by decide) ?_
    refine x_bipush (v := 7) (pc := 12) X dX9_which_12 (by decide) ?_
    obtain ⟨z2, e2, h⟩ := bnds h
    refine x_callS (pc := 14) (As := [.int i2, .int (-1), .int 7]) (st := []) (st' := [.int z2]) X (c_M_in l cx nx N D P _ _ _ z2 e2) dX9_which_14 w_972 m_M_in rfl ⟨by decide, by decide⟩ ⟨Nat.zero_le _, Nat.zero_le _⟩ rfl (Nat.le_of_ble_eq_true rfl) rfl ?_
    refine x_if_ne (tgt := 22) (pc := 17) X dX9_which_17 (by decide) (fun c35 => ?_) (fun c35 => ?_)
    · have h := ite_f c35 h
      refine x_aload_n (pc := 22) X dX9_which_22 (i := 0) rfl 0 rfl ?_
      refine x_aload_n (pc := 23) X dX9_which_23 (i := 0) rfl 0 rfl ?_
      obtain ⟨q3, e3, h⟩ := nns h
      refine x_getr (ci := 9) (k := 11) (n := 26) (C := RX9) (T := TX9) (pc := 24) X dX9_which_24 hk0 rfl (by decide) w_900 rfl e3 ?_
      obtain ⟨z4, e4, h⟩ := bnds h
      refine x_callV (pc := 27) (As := [.ref (cx.2.2 + q3)]) (st := []) (st' := [.int z4]) X (c_M_borne l cx nx N D P _ _ z4 e4) dX9_which_27 w_1132 m_M_borne rfl hk0 (ci := 9) rfl rfl ⟨by decide, by decide⟩ ⟨Nat.zero_le _, Nat.zero_le _⟩ rfl (Nat.le_of_ble_eq_true rfl) rfl ?_
      refine x_istore_n (lv' := [(3, .int z4), (0, .ref (cx.2.2 + a0)), (1, .int i1), (2, .int i2)]) (pc := 30) X dX9_which_30 (i := 3) rfl (by decide) rfl ?_
      refine x_iload_n (pc := 31) X dX9_which_31 (i := 3) rfl 0 rfl ?_
      obtain ⟨z5, e5, h⟩ := bnds h
      refine x_callS (pc := 32) (As := [.int z4]) (st := []) (st' := [.int z5]) X (c_M_bitsOf l cx nx N D P _ z5 e5) dX9_which_32 w_1136 m_M_bitsOf rfl ⟨by decide, by decide⟩ ⟨Nat.zero_le _, Nat.zero_le _⟩ rfl (Nat.le_of_ble_eq_true rfl) rfl ?_
      refine x_aload_n (pc := 35) X dX9_which_35 (i := 0) rfl 1 rfl ?_
      refine x_geti (ci := 9) (k := 24) (n := 26) (C := RX9) (T := TX9) (pc := 36) X dX9_which_36 hk0 rfl (by decide) w_913 rfl ?_
      refine x_icmp_eq (tgt := 54) (pc := 39) X dX9_which_39 (by decide) (fun c34 => ?_) (fun c34 => ?_)
      · have h := ite_t c34 h
        refine x_aload_n (pc := 54) X dX9_which_54 (i := 0) rfl 1 rfl ?_
        refine x_iload_n (pc := 55) X dX9_which_55 (i := 3) rfl 0 rfl ?_
        refine x_iload_n (pc := 56) X dX9_which_56 (i := 1) rfl 2 rfl ?_
        obtain ⟨z6, e6, h⟩ := bnds h
        refine x_callV (pc := 57) (As := [.int z4, .int i1]) (st := []) (st' := []) X (c_M_tellWays l cx nx N D P _ _ _ z6 e6) dX9_which_57 w_1192 m_M_tellWays rfl hk0 (ci := 9) rfl rfl ⟨by decide, by decide⟩ ⟨Nat.zero_le _, Nat.zero_le _⟩ rfl (Nat.le_of_ble_eq_true rfl) rfl ?_
        refine x_iload_n (pc := 60) X dX9_which_60 (i := 2) rfl 3 rfl ?_
        refine x_iconst (v := (-1)) (pc := 61) X dX9_which_61 (by decide) ?_
        refine x_icmp_eq (tgt := 82) (pc := 62) X dX9_which_62 (by decide) (fun c32 => ?_) (fun c32 => ?_)
        · have h := ite_t c32 h
          exact XW.sub [1, 3] rfl (hJ82 _ h)
        · have h := ite_f c32 h
          refine x_aload_n (pc := 65) X dX9_which_65 (i := 0) rfl 1 rfl ?_
          obtain ⟨q10, e10, h⟩ := nns h
          refine x_getr (ci := 9) (k := 25) (n := 26) (C := RX9) (T := TX9) (pc := 66) X dX9_which_66 hk0 rfl (by decide) w_914 rfl e10 ?_
          refine x_iconst (v := 0) (pc := 69) X dX9_which_69 (by decide) ?_
          obtain ⟨g11, h⟩ := grd h
          refine x_iald (pc := 70) X dX9_which_70 g11 ?_
          refine x_if_eq (tgt := 82) (pc := 71) X dX9_which_71 (by decide) (fun c31 => ?_) (fun c31 => ?_)
          · have h := ite_t c31 h
            exact XW.sub [1, 3] rfl (hJ82 _ h)
          · have h := ite_f c31 h
            refine x_iload_n (pc := 74) X dX9_which_74 (i := 2) rfl 3 rfl ?_
            refine x_aload_n (pc := 75) X dX9_which_75 (i := 0) rfl 1 rfl ?_
            refine x_geti (ci := 9) (k := 24) (n := 26) (C := RX9) (T := TX9) (pc := 76) X dX9_which_76 hk0 rfl (by decide) w_913 rfl ?_
            refine x_icmp_lt (tgt := 99) (pc := 79) X dX9_which_79 (by decide) (fun c30 => ?_) (fun c30 => ?_)
            · have h := ite_t c30 h
              refine x_iconst (v := 0) (pc := 99) X dX9_which_99 (by decide) ?_
              refine x_istore (lv' := [(4, .int 0), (3, .int z4), (0, .ref (cx.2.2 + a0)), (1, .int i1), (2, .int i2)]) (pc := 100) X dX9_which_100 (by decide) rfl ?_
              refine x_bipush (v := (-4)) (pc := 102) X dX9_which_102 (by decide) ?_
              refine x_istore (lv' := [(5, .int (-4)), (4, .int 0), (3, .int z4), (0, .ref (cx.2.2 + a0)), (1, .int i1), (2, .int i2)]) (pc := 104) X dX9_which_104 (by decide) rfl ?_
              refine x_iconst (v := 0) (pc := 106) X dX9_which_106 (by decide) ?_
              refine x_istore (lv' := [(6, .int 0), (5, .int (-4)), (4, .int 0), (3, .int z4), (0, .ref (cx.2.2 + a0)), (1, .int i1), (2, .int i2)]) (pc := 107) X dX9_which_107 (by decide) rfl ?_
              exact XW.sub [4, 5, 6, 3, 2, 1, 0] rfl (hL109 _ _ _ _ _ _ h)
            · have h := ite_f c30 h
              exact XW.sub [1, 3] rfl (hJ82 _ h)
      · have h := ite_f c34 h
        refine x_iload_n (pc := 42) X dX9_which_42 (i := 2) rfl 3 rfl ?_
        refine x_iconst (v := (-1)) (pc := 43) X dX9_which_43 (by decide) ?_
        refine x_icmp_ne (tgt := 51) (pc := 44) X dX9_which_44 (by decide) (fun c33 => ?_) (fun c33 => ?_)
        · have h := ite_f c33 h
          refine x_bipush (v := (-4)) (pc := 51) X dX9_which_51 (by decide) ?_
          obtain rfl := Option.some.inj h
          exact x_iret (pc := 53) X dX9_which_53
        · have h := ite_t c33 h
          refine x_iconst (v := 0) (pc := 47) X dX9_which_47 (by decide) ?_
          refine x_goto (tgt := 53) (pc := 48) X dX9_which_48 (by decide) ?_
          obtain rfl := Option.some.inj h
          exact x_iret (pc := 53) X dX9_which_53
    · have h := ite_t c35 h
      refine x_iconst (v := (-1)) (pc := 20) X dX9_which_20 (by decide) ?_
      obtain rfl := Option.some.inj h
      exact x_iret (pc := 21) X dX9_which_21
theorem dX9_breaksBy_0 : decode cX9_breaksBy 0 = .ok (.aload_n 0, 1) := by decide +kernel
theorem dX9_breaksBy_1 : decode cX9_breaksBy 1 = .ok (.invokevirtual 191, 3) := by decide +kernel
theorem dX9_breaksBy_4 : decode cX9_breaksBy 4 = .ok (.iconst 0, 1) := by decide +kernel
theorem dX9_breaksBy_5 : decode cX9_breaksBy 5 = .ok (.istore 4, 2) := by decide +kernel
theorem dX9_breaksBy_7 : decode cX9_breaksBy 7 = .ok (.iconst 0, 1) := by decide +kernel
theorem dX9_breaksBy_8 : decode cX9_breaksBy 8 = .ok (.istore 5, 2) := by decide +kernel
theorem dX9_breaksBy_10 : decode cX9_breaksBy 10 = .ok (.iload 5, 2) := by decide +kernel
theorem dX9_breaksBy_12 : decode cX9_breaksBy 12 = .ok (.iload_n 3, 1) := by decide +kernel
theorem dX9_breaksBy_13 : decode cX9_breaksBy 13 = .ok (.if_icmp .ge 115, 3) := by decide +kernel
theorem dX9_breaksBy_16 : decode cX9_breaksBy 16 = .ok (.iconst 0, 1) := by decide +kernel
theorem dX9_breaksBy_17 : decode cX9_breaksBy 17 = .ok (.istore 6, 2) := by decide +kernel
theorem dX9_breaksBy_19 : decode cX9_breaksBy 19 = .ok (.iload 6, 2) := by decide +kernel
theorem dX9_breaksBy_21 : decode cX9_breaksBy 21 = .ok (.aload_n 0, 1) := by decide +kernel
theorem dX9_breaksBy_22 : decode cX9_breaksBy 22 = .ok (.getfield 17, 3) := by decide +kernel
theorem dX9_breaksBy_25 : decode cX9_breaksBy 25 = .ok (.iconst 0, 1) := by decide +kernel
theorem dX9_breaksBy_26 : decode cX9_breaksBy 26 = .ok (.iaload, 1) := by decide +kernel
theorem dX9_breaksBy_27 : decode cX9_breaksBy 27 = .ok (.if_icmp .ge 63, 3) := by decide +kernel
theorem dX9_breaksBy_30 : decode cX9_breaksBy 30 = .ok (.aload_n 0, 1) := by decide +kernel
theorem dX9_breaksBy_31 : decode cX9_breaksBy 31 = .ok (.getfield 44, 3) := by decide +kernel
theorem dX9_breaksBy_34 : decode cX9_breaksBy 34 = .ok (.bipush 10, 2) := by decide +kernel
theorem dX9_breaksBy_36 : decode cX9_breaksBy 36 = .ok (.iload 6, 2) := by decide +kernel
theorem dX9_breaksBy_38 : decode cX9_breaksBy 38 = .ok (.iadd, 1) := by decide +kernel
theorem dX9_breaksBy_39 : decode cX9_breaksBy 39 = .ok (.dup2, 1) := by decide +kernel
theorem dX9_breaksBy_40 : decode cX9_breaksBy 40 = .ok (.iaload, 1) := by decide +kernel
theorem dX9_breaksBy_41 : decode cX9_breaksBy 41 = .ok (.iload_n 2, 1) := by decide +kernel
theorem dX9_breaksBy_42 : decode cX9_breaksBy 42 = .ok (.iload 5, 2) := by decide +kernel
theorem dX9_breaksBy_44 : decode cX9_breaksBy 44 = .ok (.invokestatic 149, 3) := by decide +kernel
theorem dX9_breaksBy_47 : decode cX9_breaksBy 47 = .ok (.ifCond .eq 34, 3) := by decide +kernel
theorem dX9_breaksBy_50 : decode cX9_breaksBy 50 = .ok (.aload_n 0, 1) := by decide +kernel
theorem dX9_breaksBy_51 : decode cX9_breaksBy 51 = .ok (.getfield 44, 3) := by decide +kernel
theorem dX9_breaksBy_54 : decode cX9_breaksBy 54 = .ok (.iload 6, 2) := by decide +kernel
theorem dX9_breaksBy_56 : decode cX9_breaksBy 56 = .ok (.invokestatic 145, 3) := by decide +kernel
theorem dX9_breaksBy_59 : decode cX9_breaksBy 59 = .ok (.ifCond .eq 22, 3) := by decide +kernel
theorem dX9_breaksBy_62 : decode cX9_breaksBy 62 = .ok (.aload_n 0, 1) := by decide +kernel
theorem dX9_breaksBy_63 : decode cX9_breaksBy 63 = .ok (.getfield 44, 3) := by decide +kernel
theorem dX9_breaksBy_66 : decode cX9_breaksBy 66 = .ok (.bipush 10, 2) := by decide +kernel
theorem dX9_breaksBy_68 : decode cX9_breaksBy 68 = .ok (.iload 6, 2) := by decide +kernel
theorem dX9_breaksBy_70 : decode cX9_breaksBy 70 = .ok (.iadd, 1) := by decide +kernel
theorem dX9_breaksBy_71 : decode cX9_breaksBy 71 = .ok (.iaload, 1) := by decide +kernel
theorem dX9_breaksBy_72 : decode cX9_breaksBy 72 = .ok (.bipush 40, 2) := by decide +kernel
theorem dX9_breaksBy_74 : decode cX9_breaksBy 74 = .ok (.if_icmp .ge 7, 3) := by decide +kernel
theorem dX9_breaksBy_77 : decode cX9_breaksBy 77 = .ok (.iconst 1, 1) := by decide +kernel
theorem dX9_breaksBy_78 : decode cX9_breaksBy 78 = .ok (.goto 4, 3) := by decide +kernel
theorem dX9_breaksBy_81 : decode cX9_breaksBy 81 = .ok (.iconst 0, 1) := by decide +kernel
theorem dX9_breaksBy_82 : decode cX9_breaksBy 82 = .ok (.iadd, 1) := by decide +kernel
theorem dX9_breaksBy_83 : decode cX9_breaksBy 83 = .ok (.iastore, 1) := by decide +kernel
theorem dX9_breaksBy_84 : decode cX9_breaksBy 84 = .ok (.iinc 6 1, 3) := by decide +kernel
theorem dX9_breaksBy_87 : decode cX9_breaksBy 87 = .ok (.goto (-68), 3) := by decide +kernel
theorem dX9_breaksBy_90 : decode cX9_breaksBy 90 = .ok (.aload_n 0, 1) := by decide +kernel
theorem dX9_breaksBy_91 : decode cX9_breaksBy 91 = .ok (.aload_n 0, 1) := by decide +kernel
theorem dX9_breaksBy_92 : decode cX9_breaksBy 92 = .ok (.getfield 44, 3) := by decide +kernel
theorem dX9_breaksBy_95 : decode cX9_breaksBy 95 = .ok (.invokevirtual 187, 3) := by decide +kernel
theorem dX9_breaksBy_98 : decode cX9_breaksBy 98 = .ok (.iload 4, 2) := by decide +kernel
theorem dX9_breaksBy_100 : decode cX9_breaksBy 100 = .ok (.ifCond .ne 15, 3) := by decide +kernel
theorem dX9_breaksBy_103 : decode cX9_breaksBy 103 = .ok (.aload_n 0, 1) := by decide +kernel
theorem dX9_breaksBy_104 : decode cX9_breaksBy 104 = .ok (.aload_n 0, 1) := by decide +kernel
theorem dX9_breaksBy_105 : decode cX9_breaksBy 105 = .ok (.getfield 44, 3) := by decide +kernel
theorem dX9_breaksBy_108 : decode cX9_breaksBy 108 = .ok (.iload_n 1, 1) := by decide +kernel
theorem dX9_breaksBy_109 : decode cX9_breaksBy 109 = .ok (.invokevirtual 163, 3) := by decide +kernel
theorem dX9_breaksBy_112 : decode cX9_breaksBy 112 = .ok (.ifCond .eq 7, 3) := by decide +kernel
theorem dX9_breaksBy_115 : decode cX9_breaksBy 115 = .ok (.iconst 1, 1) := by decide +kernel
theorem dX9_breaksBy_116 : decode cX9_breaksBy 116 = .ok (.goto 4, 3) := by decide +kernel
theorem dX9_breaksBy_119 : decode cX9_breaksBy 119 = .ok (.iconst 0, 1) := by decide +kernel
theorem dX9_breaksBy_120 : decode cX9_breaksBy 120 = .ok (.istore 4, 2) := by decide +kernel
theorem dX9_breaksBy_122 : decode cX9_breaksBy 122 = .ok (.iinc 5 1, 3) := by decide +kernel
theorem dX9_breaksBy_125 : decode cX9_breaksBy 125 = .ok (.goto (-115), 3) := by decide +kernel
theorem dX9_breaksBy_128 : decode cX9_breaksBy 128 = .ok (.iload 4, 2) := by decide +kernel
theorem dX9_breaksBy_130 : decode cX9_breaksBy 130 = .ok (.ireturn, 1) := by decide +kernel
def f_M_breaksBy_19 (N nx : Nat) (rec10 : Dt → Int32 → Int32 → Option (Int32 × Dt)) (P : Ft) (a0 : Nat) (i1 : Int32) (i2 : Int32) (i3 : Int32) (i4 : Int32) (i5 : Int32) (rec19 : Dt → Int32 → Option (Int32 × Dt)) (D : Dt) (i6 : Int32) : Option (Int32 × Dt) :=
  nn (P a0 3) fun q3 =>
  if ab nx q3 3 0 = true then
  if D q3 (0 : Int32).toNatClampNeg ≤ i6 then
    nn (P a0 16) fun q5 =>
    (f_M_passOn N nx D P a0 q5).bind fun z6 =>
    if i4 = 0 then
      (f_M_doesBreak N nx z6 P a0 q5 i1).bind fun z7 =>
      if z7 = 0 then
        rec10 z6 0 (i5 + 1)
      else
        rec10 z6 1 (i5 + 1)
    else
      rec10 z6 1 (i5 + 1)
  else
    nn (P a0 16) fun q10 =>
    if ab nx q10 3 (10 + i6) = true then
    (f_M_has N nx D P i2 i5).bind fun z12 =>
    if z12 = 0 then
      if ab nx q10 3 (10 + i6) = true then
      pas (upd2 D q10 (10 + i6).toNatClampNeg ((D q10 (10 + i6).toNatClampNeg) + 0)) fun D13 =>
      rec19 D13 (i6 + 1)
      else none
    else
      (f_M_isBorne N nx D P q10 i6).bind fun z14 =>
      if z14 = 0 then
        if ab nx q10 3 (10 + i6) = true then
        pas (upd2 D q10 (10 + i6).toNatClampNeg ((D q10 (10 + i6).toNatClampNeg) + 0)) fun D15 =>
        rec19 D15 (i6 + 1)
        else none
      else
        if ab nx q10 3 (10 + i6) = true then
        if 40 ≤ D q10 (10 + i6).toNatClampNeg then
          if ab nx q10 3 (10 + i6) = true then
          pas (upd2 D q10 (10 + i6).toNatClampNeg ((D q10 (10 + i6).toNatClampNeg) + 0)) fun D17 =>
          rec19 D17 (i6 + 1)
          else none
        else
          if ab nx q10 3 (10 + i6) = true then
          pas (upd2 D q10 (10 + i6).toNatClampNeg ((D q10 (10 + i6).toNatClampNeg) + 1)) fun D18 =>
          rec19 D18 (i6 + 1)
          else none
        else none
    else none
  else none
def f_M_breaksBy_10 (N nx : Nat) (P : Ft) (a0 : Nat) (i1 : Int32) (i2 : Int32) (i3 : Int32) (rec10 : Dt → Int32 → Int32 → Option (Int32 × Dt)) (D : Dt) (i4 : Int32) (i5 : Int32) : Option (Int32 × Dt) :=
  if i3 ≤ i5 then
    if i4 = 0 ∨ i4 = 1 then
    some (i4, D)
    else none
  else
    wk2 N (f_M_breaksBy_19 N nx rec10 P a0 i1 i2 i3 i4 i5) D 0
def f_M_breaksBy (N nx : Nat) (D : Dt) (P : Ft) (a0 : Nat) (i1 : Int32) (i2 : Int32) (i3 : Int32) : Option (Int32 × Dt) :=
  if kd nx a0 = 9 then
  (f_M_take N nx D P a0).bind fun z1 =>
  wk3 N (f_M_breaksBy_10 N nx P a0 i1 i2 i3) z1 0 0
  else none
theorem m_M_breaksBy : MV yX9_breaksBy cX9_breaksBy 7 (some .boolean) 3 := ⟨mT 1203 (by decide +kernel) rfl, mT 1202 (by decide +kernel) rfl, mT 51 (by decide +kernel) rfl, mT 68 (by decide +kernel) rfl, by decide +kernel, by decide +kernel, by decide +kernel⟩
set_option maxHeartbeats 4000000 in
set_option maxRecDepth 100000 in
theorem c_M_breaksBy (l : Launch) (cx : Cx) (nx N : Nat) (D : Dt) (P : Ft) (a0 : Nat) (i1 : Int32) (i2 : Int32) (i3 : Int32) (z : Int32 × Dt) (h : f_M_breaksBy N nx D P a0 i1 i2 i3 = some z) : Ct l cx yX9_breaksBy cX9_breaksBy 7 (some .boolean) 4 [.ref (cx.2.2 + a0), .int i1, .int i2, .int i3] D P nx (some (.int z.1)) z.2 P := by
  refine x_met0 (by decide) (Nat.le_of_ble_eq_true rfl) ?_
  intro p e s m args below meth c X
  have X : XC p s m args meth c cx cX9_breaksBy 7 (some .boolean) "HeartPinsModel" "breaksBy" := X
  refine XW.sub (lv' := [(0, .ref (cx.2.2 + a0)), (1, .int i1), (2, .int i2), (3, .int i3)]) [0, 1, 2, 3] rfl ?_
  unfold f_M_breaksBy at h
  obtain ⟨hk0, h⟩ := grd h
  have hL10 : ∀ (n : Nat) (D : Dt) (i4 : Int32) (i5 : Int32), wk3 n (f_M_breaksBy_10 N nx P a0 i1 i2 i3) D i4 i5 = some z → XW p l e (rmk 4) s m args below meth c (MQ below (Qx cx (some (.int z.1)) z.2 P nx) args s 0 0 (AA cx)) cx 7 D P nx 0 0 10 [(0, .ref (cx.2.2 + a0)), (1, .int i1), (2, .int i2), (3, .int i3), (4, .int i4), (5, .int i5)] [] := by
    intro n
    induction n with
    | zero => intro D i4 i5 h; exact (nonz h).elim
    | succ n ih10 =>
      intro D i4 i5 h
      have h : f_M_breaksBy_10 N nx P a0 i1 i2 i3 (wk3 n (f_M_breaksBy_10 N nx P a0 i1 i2 i3)) D i4 i5 = some z := h
      generalize wk3 n (f_M_breaksBy_10 N nx P a0 i1 i2 i3) = rec10 at ih10 h
      unfold f_M_breaksBy_10 at h
      have hL19 : ∀ (i4 : Int32) (i5 : Int32) (n : Nat) (D : Dt) (i6 : Int32), wk2 n (f_M_breaksBy_19 N nx rec10 P a0 i1 i2 i3 i4 i5) D i6 = some z → XW p l e (rmk 4) s m args below meth c (MQ below (Qx cx (some (.int z.1)) z.2 P nx) args s 0 0 (AA cx)) cx 7 D P nx 0 0 19 [(0, .ref (cx.2.2 + a0)), (1, .int i1), (2, .int i2), (3, .int i3), (4, .int i4), (5, .int i5), (6, .int i6)] [] := by
        intro i4 i5 n
        induction n with
        | zero => intro D i6 h; exact (nonz h).elim
        | succ n ih19 =>
          intro D i6 h
          have h : f_M_breaksBy_19 N nx rec10 P a0 i1 i2 i3 i4 i5 (wk2 n (f_M_breaksBy_19 N nx rec10 P a0 i1 i2 i3 i4 i5)) D i6 = some z := h
          generalize wk2 n (f_M_breaksBy_19 N nx rec10 P a0 i1 i2 i3 i4 i5) = rec19 at ih19 h
          unfold f_M_breaksBy_19 at h
          refine x_iload (pc := 19) X dX9_breaksBy_19 6 rfl ?_
          refine x_aload_n (pc := 21) X dX9_breaksBy_21 (i := 0) rfl 0 rfl ?_
          obtain ⟨q3, e3, h⟩ := nns h
          refine x_getr (ci := 9) (k := 3) (n := 26) (C := RX9) (T := TX9) (pc := 22) X dX9_breaksBy_22 hk0 rfl (by decide) w_892 rfl e3 ?_
          refine x_iconst (v := 0) (pc := 25) X dX9_breaksBy_25 (by decide) ?_
          obtain ⟨g4, h⟩ := grd h
          refine x_iald (pc := 26) X dX9_breaksBy_26 g4 ?_
          refine x_icmp_ge (tgt := 90) (pc := 27) X dX9_breaksBy_27 (by decide) (fun c22 => ?_) (fun c22 => ?_)
          · have h := ite_t c22 h
            refine x_aload_n (pc := 90) X dX9_breaksBy_90 (i := 0) rfl 0 rfl ?_
            refine x_aload_n (pc := 91) X dX9_breaksBy_91 (i := 0) rfl 0 rfl ?_
            obtain ⟨q5, e5, h⟩ := nns h
            refine x_getr (ci := 9) (k := 16) (n := 26) (C := RX9) (T := TX9) (pc := 92) X dX9_breaksBy_92 hk0 rfl (by decide) w_905 rfl e5 ?_
            obtain ⟨z6, e6, h⟩ := bnds h
            refine x_callV (pc := 95) (As := [.ref (cx.2.2 + q5)]) (st := []) (st' := []) X (c_M_passOn l cx nx N D P _ _ z6 e6) dX9_breaksBy_95 w_1093 m_M_passOn rfl hk0 (ci := 9) rfl rfl ⟨by decide, by decide⟩ ⟨Nat.zero_le _, Nat.zero_le _⟩ rfl (Nat.le_of_ble_eq_true rfl) rfl ?_
            refine x_iload (pc := 98) X dX9_breaksBy_98 4 rfl ?_
            refine x_if_ne (tgt := 115) (pc := 100) X dX9_breaksBy_100 (by decide) (fun c9 => ?_) (fun c9 => ?_)
            · have h := ite_f c9 h
              refine x_iconst (v := 1) (pc := 115) X dX9_breaksBy_115 (by decide) ?_
              refine x_goto (tgt := 120) (pc := 116) X dX9_breaksBy_116 (by decide) ?_
              refine x_istore (lv' := [(4, .int 1), (0, .ref (cx.2.2 + a0)), (1, .int i1), (2, .int i2), (3, .int i3), (5, .int i5), (6, .int i6)]) (pc := 120) X dX9_breaksBy_120 (by decide) rfl ?_
              refine x_iinc (v := i5 + 1) (lv' := [(5, .int (i5 + 1)), (4, .int 1), (0, .ref (cx.2.2 + a0)), (1, .int i1), (2, .int i2), (3, .int i3), (6, .int i6)]) (pc := 122) X dX9_breaksBy_122 5 rfl rfl (by decide) rfl ?_
              refine x_goto (tgt := 10) (pc := 125) X dX9_breaksBy_125 (by decide) ?_
              exact XW.sub [2, 3, 4, 5, 1, 0] rfl (ih10 _ _ _ h)
            · have h := ite_t c9 h
              refine x_aload_n (pc := 103) X dX9_breaksBy_103 (i := 0) rfl 0 rfl ?_
              refine x_aload_n (pc := 104) X dX9_breaksBy_104 (i := 0) rfl 0 rfl ?_
              refine x_getr (ci := 9) (k := 16) (n := 26) (C := RX9) (T := TX9) (pc := 105) X dX9_breaksBy_105 hk0 rfl (by decide) w_905 rfl e5 ?_
              refine x_iload_n (pc := 108) X dX9_breaksBy_108 (i := 1) rfl 1 rfl ?_
              obtain ⟨z7, e7, h⟩ := bnds h
              refine x_callV (pc := 109) (As := [.ref (cx.2.2 + q5), .int i1]) (st := []) (st' := [.int z7]) X (c_M_doesBreak l cx nx N z6 P _ _ _ z7 e7) dX9_breaksBy_109 w_1046 m_M_doesBreak rfl hk0 (ci := 9) rfl rfl ⟨by decide, by decide⟩ ⟨Nat.zero_le _, Nat.zero_le _⟩ rfl (Nat.le_of_ble_eq_true rfl) rfl ?_
              refine x_if_eq (tgt := 119) (pc := 112) X dX9_breaksBy_112 (by decide) (fun c8 => ?_) (fun c8 => ?_)
              · have h := ite_t c8 h
                refine x_iconst (v := 0) (pc := 119) X dX9_breaksBy_119 (by decide) ?_
                refine x_istore (lv' := [(4, .int 0), (0, .ref (cx.2.2 + a0)), (1, .int i1), (2, .int i2), (3, .int i3), (5, .int i5), (6, .int i6)]) (pc := 120) X dX9_breaksBy_120 (by decide) rfl ?_
                refine x_iinc (v := i5 + 1) (lv' := [(5, .int (i5 + 1)), (4, .int 0), (0, .ref (cx.2.2 + a0)), (1, .int i1), (2, .int i2), (3, .int i3), (6, .int i6)]) (pc := 122) X dX9_breaksBy_122 5 rfl rfl (by decide) rfl ?_
                refine x_goto (tgt := 10) (pc := 125) X dX9_breaksBy_125 (by decide) ?_
                exact XW.sub [2, 3, 4, 5, 1, 0] rfl (ih10 _ _ _ h)
              · have h := ite_f c8 h
                refine x_iconst (v := 1) (pc := 115) X dX9_breaksBy_115 (by decide) ?_
                refine x_goto (tgt := 120) (pc := 116) X dX9_breaksBy_116 (by decide) ?_
                refine x_istore (lv' := [(4, .int 1), (0, .ref (cx.2.2 + a0)), (1, .int i1), (2, .int i2), (3, .int i3), (5, .int i5), (6, .int i6)]) (pc := 120) X dX9_breaksBy_120 (by decide) rfl ?_
                refine x_iinc (v := i5 + 1) (lv' := [(5, .int (i5 + 1)), (4, .int 1), (0, .ref (cx.2.2 + a0)), (1, .int i1), (2, .int i2), (3, .int i3), (6, .int i6)]) (pc := 122) X dX9_breaksBy_122 5 rfl rfl (by decide) rfl ?_
                refine x_goto (tgt := 10) (pc := 125) X dX9_breaksBy_125 (by decide) ?_
                exact XW.sub [2, 3, 4, 5, 1, 0] rfl (ih10 _ _ _ h)
          · have h := ite_f c22 h
            refine x_aload_n (pc := 30) X dX9_breaksBy_30 (i := 0) rfl 0 rfl ?_
            obtain ⟨q10, e10, h⟩ := nns h
            refine x_getr (ci := 9) (k := 16) (n := 26) (C := RX9) (T := TX9) (pc := 31) X dX9_breaksBy_31 hk0 rfl (by decide) w_905 rfl e10 ?_
            refine x_bipush (v := 10) (pc := 34) X dX9_breaksBy_34 (by decide) ?_
            refine x_iload (pc := 36) X dX9_breaksBy_36 6 rfl ?_
            refine x_iadd (pc := 38) X dX9_breaksBy_38 ?_
            refine x_dup2 (pc := 39) X dX9_breaksBy_39 rfl rfl ?_
            obtain ⟨g11, h⟩ := grd h
            refine x_iald (pc := 40) X dX9_breaksBy_40 g11 ?_
            refine x_iload_n (pc := 41) X dX9_breaksBy_41 (i := 2) rfl 2 rfl ?_
            refine x_iload (pc := 42) X dX9_breaksBy_42 5 rfl ?_
            obtain ⟨z12, e12, h⟩ := bnds h
            refine x_callS (pc := 44) (As := [.int i2, .int i5]) (st := [.int (D q10 (10 + i6).toNatClampNeg), .int (10 + i6), .ref (cx.2.2 + q10)]) (st' := [.int z12, .int (D q10 (10 + i6).toNatClampNeg), .int (10 + i6), .ref (cx.2.2 + q10)]) X (c_M_has l cx nx N D P _ _ z12 e12) dX9_breaksBy_44 w_1043 m_M_has rfl ⟨by decide, by decide⟩ ⟨Nat.zero_le _, Nat.zero_le _⟩ rfl (Nat.le_of_ble_eq_true rfl) rfl ?_
            refine x_if_eq (tgt := 81) (pc := 47) X dX9_breaksBy_47 (by decide) (fun c21 => ?_) (fun c21 => ?_)
            · have h := ite_t c21 h
              refine x_iconst (v := 0) (pc := 81) X dX9_breaksBy_81 (by decide) ?_
              refine x_iadd (pc := 82) X dX9_breaksBy_82 ?_
              obtain ⟨g13, h⟩ := grd h
              obtain ⟨D13, w13, h⟩ := pass h
              refine x_iast (D' := D13) (pc := 83) X dX9_breaksBy_83 g13 w13 ?_
              refine x_iinc (v := i6 + 1) (lv' := [(6, .int (i6 + 1)), (0, .ref (cx.2.2 + a0)), (1, .int i1), (2, .int i2), (3, .int i3), (4, .int i4), (5, .int i5)]) (pc := 84) X dX9_breaksBy_84 6 rfl rfl (by decide) rfl ?_
              refine x_goto (tgt := 19) (pc := 87) X dX9_breaksBy_87 (by decide) ?_
              exact XW.sub [1, 2, 3, 4, 5, 6, 0] rfl (ih19 _ _ h)
            · have h := ite_f c21 h
              refine x_aload_n (pc := 50) X dX9_breaksBy_50 (i := 0) rfl 0 rfl ?_
              refine x_getr (ci := 9) (k := 16) (n := 26) (C := RX9) (T := TX9) (pc := 51) X dX9_breaksBy_51 hk0 rfl (by decide) w_905 rfl e10 ?_
              refine x_iload (pc := 54) X dX9_breaksBy_54 6 rfl ?_
              obtain ⟨z14, e14, h⟩ := bnds h
              refine x_callS (pc := 56) (As := [.ref (cx.2.2 + q10), .int i6]) (st := [.int (D q10 (10 + i6).toNatClampNeg), .int (10 + i6), .ref (cx.2.2 + q10)]) (st' := [.int z14, .int (D q10 (10 + i6).toNatClampNeg), .int (10 + i6), .ref (cx.2.2 + q10)]) X (c_M_isBorne l cx nx N D P _ _ z14 e14) dX9_breaksBy_56 w_1058 m_M_isBorne rfl ⟨by decide, by decide⟩ ⟨Nat.zero_le _, Nat.zero_le _⟩ rfl (Nat.le_of_ble_eq_true rfl) rfl ?_
              refine x_if_eq (tgt := 81) (pc := 59) X dX9_breaksBy_59 (by decide) (fun c20 => ?_) (fun c20 => ?_)
              · have h := ite_t c20 h
                refine x_iconst (v := 0) (pc := 81) X dX9_breaksBy_81 (by decide) ?_
                refine x_iadd (pc := 82) X dX9_breaksBy_82 ?_
                obtain ⟨g15, h⟩ := grd h
                obtain ⟨D15, w15, h⟩ := pass h
                refine x_iast (D' := D15) (pc := 83) X dX9_breaksBy_83 g15 w15 ?_
                refine x_iinc (v := i6 + 1) (lv' := [(6, .int (i6 + 1)), (0, .ref (cx.2.2 + a0)), (1, .int i1), (2, .int i2), (3, .int i3), (4, .int i4), (5, .int i5)]) (pc := 84) X dX9_breaksBy_84 6 rfl rfl (by decide) rfl ?_
                refine x_goto (tgt := 19) (pc := 87) X dX9_breaksBy_87 (by decide) ?_
                exact XW.sub [1, 2, 3, 4, 5, 6, 0] rfl (ih19 _ _ h)
              · have h := ite_f c20 h
                refine x_aload_n (pc := 62) X dX9_breaksBy_62 (i := 0) rfl 0 rfl ?_
                refine x_getr (ci := 9) (k := 16) (n := 26) (C := RX9) (T := TX9) (pc := 63) X dX9_breaksBy_63 hk0 rfl (by decide) w_905 rfl e10 ?_
                refine x_bipush (v := 10) (pc := 66) X dX9_breaksBy_66 (by decide) ?_
                refine x_iload (pc := 68) X dX9_breaksBy_68 6 rfl ?_
                refine x_iadd (pc := 70) X dX9_breaksBy_70 ?_
                obtain ⟨g16, h⟩ := grd h
                refine x_iald (pc := 71) X dX9_breaksBy_71 g16 ?_
                refine x_bipush (v := 40) (pc := 72) X dX9_breaksBy_72 (by decide) ?_
                refine x_icmp_ge (tgt := 81) (pc := 74) X dX9_breaksBy_74 (by decide) (fun c19 => ?_) (fun c19 => ?_)
                · have h := ite_t c19 h
                  refine x_iconst (v := 0) (pc := 81) X dX9_breaksBy_81 (by decide) ?_
                  refine x_iadd (pc := 82) X dX9_breaksBy_82 ?_
                  obtain ⟨g17, h⟩ := grd h
                  obtain ⟨D17, w17, h⟩ := pass h
                  refine x_iast (D' := D17) (pc := 83) X dX9_breaksBy_83 g17 w17 ?_
                  refine x_iinc (v := i6 + 1) (lv' := [(6, .int (i6 + 1)), (0, .ref (cx.2.2 + a0)), (1, .int i1), (2, .int i2), (3, .int i3), (4, .int i4), (5, .int i5)]) (pc := 84) X dX9_breaksBy_84 6 rfl rfl (by decide) rfl ?_
                  refine x_goto (tgt := 19) (pc := 87) X dX9_breaksBy_87 (by decide) ?_
                  exact XW.sub [1, 2, 3, 4, 5, 6, 0] rfl (ih19 _ _ h)
                · have h := ite_f c19 h
                  refine x_iconst (v := 1) (pc := 77) X dX9_breaksBy_77 (by decide) ?_
                  refine x_goto (tgt := 82) (pc := 78) X dX9_breaksBy_78 (by decide) ?_
                  refine x_iadd (pc := 82) X dX9_breaksBy_82 ?_
                  obtain ⟨g18, h⟩ := grd h
                  obtain ⟨D18, w18, h⟩ := pass h
                  refine x_iast (D' := D18) (pc := 83) X dX9_breaksBy_83 g18 w18 ?_
                  refine x_iinc (v := i6 + 1) (lv' := [(6, .int (i6 + 1)), (0, .ref (cx.2.2 + a0)), (1, .int i1), (2, .int i2), (3, .int i3), (4, .int i4), (5, .int i5)]) (pc := 84) X dX9_breaksBy_84 6 rfl rfl (by decide) rfl ?_
                  refine x_goto (tgt := 19) (pc := 87) X dX9_breaksBy_87 (by decide) ?_
                  exact XW.sub [1, 2, 3, 4, 5, 6, 0] rfl (ih19 _ _ h)
      refine x_iload (pc := 10) X dX9_breaksBy_10 5 rfl ?_
      refine x_iload_n (pc := 12) X dX9_breaksBy_12 (i := 3) rfl 3 rfl ?_
      refine x_icmp_ge (tgt := 128) (pc := 13) X dX9_breaksBy_13 (by decide) (fun c23 => ?_) (fun c23 => ?_)
      · have h := ite_t c23 h
        refine x_iload (pc := 128) X dX9_breaksBy_128 4 rfl ?_
        obtain ⟨b2, h⟩ := grd h
        obtain rfl := Option.some.inj h
        exact x_zret (pc := 130) X dX9_breaksBy_130 b2
      · have h := ite_f c23 h
        refine x_iconst (v := 0) (pc := 16) X dX9_breaksBy_16 (by decide) ?_
        refine x_istore (lv' := [(6, .int 0), (0, .ref (cx.2.2 + a0)), (1, .int i1), (2, .int i2), (3, .int i3), (4, .int i4), (5, .int i5)]) (pc := 17) X dX9_breaksBy_17 (by decide) rfl ?_
        exact XW.sub [1, 2, 3, 4, 5, 6, 0] rfl (hL19 _ _ _ _ _ h)
  refine x_aload_n (pc := 0) X dX9_breaksBy_0 (i := 0) rfl 0 rfl ?_
  obtain ⟨z1, e1, h⟩ := bnds h
  refine x_callV (pc := 1) (As := []) (st := []) (st' := []) X (c_M_take l cx nx N D P _ z1 e1) dX9_breaksBy_1 w_1112 m_M_take rfl hk0 (ci := 9) rfl rfl ⟨by decide, by decide⟩ ⟨Nat.zero_le _, Nat.zero_le _⟩ rfl (Nat.le_of_ble_eq_true rfl) rfl ?_
  refine x_iconst (v := 0) (pc := 4) X dX9_breaksBy_4 (by decide) ?_
  refine x_istore (lv' := [(4, .int 0), (0, .ref (cx.2.2 + a0)), (1, .int i1), (2, .int i2), (3, .int i3)]) (pc := 5) X dX9_breaksBy_5 (by decide) rfl ?_
  refine x_iconst (v := 0) (pc := 7) X dX9_breaksBy_7 (by decide) ?_
  refine x_istore (lv' := [(5, .int 0), (4, .int 0), (0, .ref (cx.2.2 + a0)), (1, .int i1), (2, .int i2), (3, .int i3)]) (pc := 8) X dX9_breaksBy_8 (by decide) rfl ?_
  exact XW.sub [2, 3, 4, 5, 1, 0] rfl (hL10 _ _ _ _ h)
theorem dX9_bad_0 : decode cX9_bad 0 = .ok (.aload_n 0, 1) := by decide +kernel
theorem dX9_bad_1 : decode cX9_bad 1 = .ok (.iload_n 1, 1) := by decide +kernel
theorem dX9_bad_2 : decode cX9_bad 2 = .ok (.invokevirtual 174, 3) := by decide +kernel
theorem dX9_bad_5 : decode cX9_bad 5 = .ok (.ifCond .eq 33, 3) := by decide +kernel
theorem dX9_bad_8 : decode cX9_bad 8 = .ok (.iload_n 2, 1) := by decide +kernel
theorem dX9_bad_9 : decode cX9_bad 9 = .ok (.iconst 0, 1) := by decide +kernel
theorem dX9_bad_10 : decode cX9_bad 10 = .ok (.bipush 8, 2) := by decide +kernel
theorem dX9_bad_12 : decode cX9_bad 12 = .ok (.invokestatic 74, 3) := by decide +kernel
theorem dX9_bad_15 : decode cX9_bad 15 = .ok (.ifCond .eq 23, 3) := by decide +kernel
theorem dX9_bad_18 : decode cX9_bad 18 = .ok (.iload_n 3, 1) := by decide +kernel
theorem dX9_bad_19 : decode cX9_bad 19 = .ok (.iconst 0, 1) := by decide +kernel
theorem dX9_bad_20 : decode cX9_bad 20 = .ok (.bipush 10, 2) := by decide +kernel
theorem dX9_bad_22 : decode cX9_bad 22 = .ok (.invokestatic 74, 3) := by decide +kernel
theorem dX9_bad_25 : decode cX9_bad 25 = .ok (.ifCond .eq 13, 3) := by decide +kernel
theorem dX9_bad_28 : decode cX9_bad 28 = .ok (.iload 4, 2) := by decide +kernel
theorem dX9_bad_30 : decode cX9_bad 30 = .ok (.iconst 0, 1) := by decide +kernel
theorem dX9_bad_31 : decode cX9_bad 31 = .ok (.iconst 1, 1) := by decide +kernel
theorem dX9_bad_32 : decode cX9_bad 32 = .ok (.invokestatic 74, 3) := by decide +kernel
theorem dX9_bad_35 : decode cX9_bad 35 = .ok (.ifCond .ne 5, 3) := by decide +kernel
theorem dX9_bad_38 : decode cX9_bad 38 = .ok (.iconst (-1), 1) := by decide +kernel
theorem dX9_bad_39 : decode cX9_bad 39 = .ok (.ireturn, 1) := by decide +kernel
theorem dX9_bad_40 : decode cX9_bad 40 = .ok (.iconst 0, 1) := by decide +kernel
theorem dX9_bad_41 : decode cX9_bad 41 = .ok (.istore 5, 2) := by decide +kernel
theorem dX9_bad_43 : decode cX9_bad 43 = .ok (.iconst 1, 1) := by decide +kernel
theorem dX9_bad_44 : decode cX9_bad 44 = .ok (.istore 6, 2) := by decide +kernel
theorem dX9_bad_46 : decode cX9_bad 46 = .ok (.iconst 0, 1) := by decide +kernel
theorem dX9_bad_47 : decode cX9_bad 47 = .ok (.istore 7, 2) := by decide +kernel
theorem dX9_bad_49 : decode cX9_bad 49 = .ok (.iload 7, 2) := by decide +kernel
theorem dX9_bad_51 : decode cX9_bad 51 = .ok (.iconst 1, 1) := by decide +kernel
theorem dX9_bad_52 : decode cX9_bad 52 = .ok (.iload_n 2, 1) := by decide +kernel
theorem dX9_bad_53 : decode cX9_bad 53 = .ok (.ishl, 1) := by decide +kernel
theorem dX9_bad_54 : decode cX9_bad 54 = .ok (.if_icmp .ge 77, 3) := by decide +kernel
theorem dX9_bad_57 : decode cX9_bad 57 = .ok (.iconst 1, 1) := by decide +kernel
theorem dX9_bad_58 : decode cX9_bad 58 = .ok (.istore 8, 2) := by decide +kernel
theorem dX9_bad_60 : decode cX9_bad 60 = .ok (.iconst 0, 1) := by decide +kernel
theorem dX9_bad_61 : decode cX9_bad 61 = .ok (.istore 9, 2) := by decide +kernel
theorem dX9_bad_63 : decode cX9_bad 63 = .ok (.iload 9, 2) := by decide +kernel
theorem dX9_bad_65 : decode cX9_bad 65 = .ok (.iload_n 2, 1) := by decide +kernel
theorem dX9_bad_66 : decode cX9_bad 66 = .ok (.if_icmp .ge 32, 3) := by decide +kernel
theorem dX9_bad_69 : decode cX9_bad 69 = .ok (.iload 8, 2) := by decide +kernel
theorem dX9_bad_71 : decode cX9_bad 71 = .ok (.iload 7, 2) := by decide +kernel
theorem dX9_bad_73 : decode cX9_bad 73 = .ok (.iload 9, 2) := by decide +kernel
theorem dX9_bad_75 : decode cX9_bad 75 = .ok (.invokestatic 149, 3) := by decide +kernel
theorem dX9_bad_78 : decode cX9_bad 78 = .ok (.ifCond .eq 7, 3) := by decide +kernel
theorem dX9_bad_81 : decode cX9_bad 81 = .ok (.iload_n 3, 1) := by decide +kernel
theorem dX9_bad_82 : decode cX9_bad 82 = .ok (.goto 7, 3) := by decide +kernel
theorem dX9_bad_85 : decode cX9_bad 85 = .ok (.bipush 10, 2) := by decide +kernel
theorem dX9_bad_87 : decode cX9_bad 87 = .ok (.iload_n 3, 1) := by decide +kernel
theorem dX9_bad_88 : decode cX9_bad 88 = .ok (.isub, 1) := by decide +kernel
theorem dX9_bad_89 : decode cX9_bad 89 = .ok (.imul, 1) := by decide +kernel
theorem dX9_bad_90 : decode cX9_bad 90 = .ok (.istore 8, 2) := by decide +kernel
theorem dX9_bad_92 : decode cX9_bad 92 = .ok (.iinc 9 1, 3) := by decide +kernel
theorem dX9_bad_95 : decode cX9_bad 95 = .ok (.goto (-32), 3) := by decide +kernel
theorem dX9_bad_98 : decode cX9_bad 98 = .ok (.iload 5, 2) := by decide +kernel
theorem dX9_bad_100 : decode cX9_bad 100 = .ok (.iload 8, 2) := by decide +kernel
theorem dX9_bad_102 : decode cX9_bad 102 = .ok (.ifCond .le 19, 3) := by decide +kernel
theorem dX9_bad_105 : decode cX9_bad 105 = .ok (.aload_n 0, 1) := by decide +kernel
theorem dX9_bad_106 : decode cX9_bad 106 = .ok (.iload_n 1, 1) := by decide +kernel
theorem dX9_bad_107 : decode cX9_bad 107 = .ok (.iload 7, 2) := by decide +kernel
theorem dX9_bad_109 : decode cX9_bad 109 = .ok (.iload_n 2, 1) := by decide +kernel
theorem dX9_bad_110 : decode cX9_bad 110 = .ok (.invokevirtual 224, 3) := by decide +kernel
theorem dX9_bad_113 : decode cX9_bad 113 = .ok (.ifCond .eq 8, 3) := by decide +kernel
theorem dX9_bad_116 : decode cX9_bad 116 = .ok (.iload 8, 2) := by decide +kernel
theorem dX9_bad_118 : decode cX9_bad 118 = .ok (.goto 4, 3) := by decide +kernel
theorem dX9_bad_121 : decode cX9_bad 121 = .ok (.iconst 0, 1) := by decide +kernel
theorem dX9_bad_122 : decode cX9_bad 122 = .ok (.iadd, 1) := by decide +kernel
theorem dX9_bad_123 : decode cX9_bad 123 = .ok (.istore 5, 2) := by decide +kernel
theorem dX9_bad_125 : decode cX9_bad 125 = .ok (.iinc 7 1, 3) := by decide +kernel
theorem dX9_bad_128 : decode cX9_bad 128 = .ok (.goto (-79), 3) := by decide +kernel
theorem dX9_bad_131 : decode cX9_bad 131 = .ok (.iconst 0, 1) := by decide +kernel
theorem dX9_bad_132 : decode cX9_bad 132 = .ok (.istore 7, 2) := by decide +kernel
theorem dX9_bad_134 : decode cX9_bad 134 = .ok (.iload 7, 2) := by decide +kernel
theorem dX9_bad_136 : decode cX9_bad 136 = .ok (.iload_n 2, 1) := by decide +kernel
theorem dX9_bad_137 : decode cX9_bad 137 = .ok (.if_icmp .ge 16, 3) := by decide +kernel
theorem dX9_bad_140 : decode cX9_bad 140 = .ok (.iload 6, 2) := by decide +kernel
theorem dX9_bad_142 : decode cX9_bad 142 = .ok (.bipush 10, 2) := by decide +kernel
theorem dX9_bad_144 : decode cX9_bad 144 = .ok (.imul, 1) := by decide +kernel
theorem dX9_bad_145 : decode cX9_bad 145 = .ok (.istore 6, 2) := by decide +kernel
theorem dX9_bad_147 : decode cX9_bad 147 = .ok (.iinc 7 1, 3) := by decide +kernel
theorem dX9_bad_150 : decode cX9_bad 150 = .ok (.goto (-16), 3) := by decide +kernel
theorem dX9_bad_153 : decode cX9_bad 153 = .ok (.iload 5, 2) := by decide +kernel
theorem dX9_bad_155 : decode cX9_bad 155 = .ok (.istore 7, 2) := by decide +kernel
theorem dX9_bad_157 : decode cX9_bad 157 = .ok (.iload 6, 2) := by decide +kernel
theorem dX9_bad_159 : decode cX9_bad 159 = .ok (.istore 8, 2) := by decide +kernel
theorem dX9_bad_161 : decode cX9_bad 161 = .ok (.iload 8, 2) := by decide +kernel
theorem dX9_bad_163 : decode cX9_bad 163 = .ok (.ifCond .eq 21, 3) := by decide +kernel
theorem dX9_bad_166 : decode cX9_bad 166 = .ok (.iload 7, 2) := by decide +kernel
theorem dX9_bad_168 : decode cX9_bad 168 = .ok (.iload 8, 2) := by decide +kernel
theorem dX9_bad_170 : decode cX9_bad 170 = .ok (.irem, 1) := by decide +kernel
theorem dX9_bad_171 : decode cX9_bad 171 = .ok (.istore 9, 2) := by decide +kernel
theorem dX9_bad_173 : decode cX9_bad 173 = .ok (.iload 8, 2) := by decide +kernel
theorem dX9_bad_175 : decode cX9_bad 175 = .ok (.istore 7, 2) := by decide +kernel
theorem dX9_bad_177 : decode cX9_bad 177 = .ok (.iload 9, 2) := by decide +kernel
theorem dX9_bad_179 : decode cX9_bad 179 = .ok (.istore 8, 2) := by decide +kernel
theorem dX9_bad_181 : decode cX9_bad 181 = .ok (.goto (-20), 3) := by decide +kernel
theorem dX9_bad_184 : decode cX9_bad 184 = .ok (.iload 4, 2) := by decide +kernel
theorem dX9_bad_186 : decode cX9_bad 186 = .ok (.ifCond .ne 11, 3) := by decide +kernel
theorem dX9_bad_189 : decode cX9_bad 189 = .ok (.iload 5, 2) := by decide +kernel
theorem dX9_bad_191 : decode cX9_bad 191 = .ok (.iload 7, 2) := by decide +kernel
theorem dX9_bad_193 : decode cX9_bad 193 = .ok (.idiv, 1) := by decide +kernel
theorem dX9_bad_194 : decode cX9_bad 194 = .ok (.goto 8, 3) := by decide +kernel
theorem dX9_bad_197 : decode cX9_bad 197 = .ok (.iload 6, 2) := by decide +kernel
theorem dX9_bad_199 : decode cX9_bad 199 = .ok (.iload 7, 2) := by decide +kernel
theorem dX9_bad_201 : decode cX9_bad 201 = .ok (.idiv, 1) := by decide +kernel
theorem dX9_bad_202 : decode cX9_bad 202 = .ok (.ireturn, 1) := by decide +kernel
def f_M_bad_161 (N nx : Nat) (D : Dt) (P : Ft) (i4 : Int32) (i5 : Int32) (i6 : Int32) (rec161 : Int32 → Int32 → Option (Int32 × Dt)) (i7 : Int32) (i8 : Int32) : Option (Int32 × Dt) :=
  if i8 = 0 then
    if i4 = 0 then
      if i7 = 0 then none else
      some (i5 / i7, D)
    else
      if i7 = 0 then none else
      some (i6 / i7, D)
  else
    if i8 = 0 then none else
    rec161 i8 (i7 - i7 / i8 * i8)
def f_M_bad_134 (N nx : Nat) (D : Dt) (P : Ft) (i2 : Int32) (i4 : Int32) (i5 : Int32) (rec134 : Int32 → Int32 → Option (Int32 × Dt)) (i6 : Int32) (i7 : Int32) : Option (Int32 × Dt) :=
  if i2 ≤ i7 then
    wk2 N (f_M_bad_161 N nx D P i4 i5 i6) i5 i6
  else
    rec134 (i6 * 10) (i7 + 1)
def f_M_bad_63 (N nx : Nat) (rec49 : Dt → Int32 → Int32 → Option (Int32 × Dt)) (D : Dt) (P : Ft) (a0 : Nat) (i1 : Int32) (i2 : Int32) (i3 : Int32) (i4 : Int32) (i5 : Int32) (i6 : Int32) (i7 : Int32) (rec63 : Int32 → Int32 → Option (Int32 × Dt)) (i8 : Int32) (i9 : Int32) : Option (Int32 × Dt) :=
  if i2 ≤ i9 then
    if i8 ≤ 0 then
      rec49 D (i5 + 0) (i7 + 1)
    else
      (f_M_breaksBy N nx D P a0 i1 i7 i2).bind fun z11 =>
      if z11.1 = 0 then
        rec49 z11.2 (i5 + 0) (i7 + 1)
      else
        rec49 z11.2 (i5 + i8) (i7 + 1)
  else
    (f_M_has N nx D P i7 i9).bind fun z14 =>
    if z14 = 0 then
      rec63 (i8 * (10 - i3)) (i9 + 1)
    else
      rec63 (i8 * i3) (i9 + 1)
def f_M_bad_49 (N nx : Nat) (P : Ft) (a0 : Nat) (i1 : Int32) (i2 : Int32) (i3 : Int32) (i4 : Int32) (i6 : Int32) (rec49 : Dt → Int32 → Int32 → Option (Int32 × Dt)) (D : Dt) (i5 : Int32) (i7 : Int32) : Option (Int32 × Dt) :=
  if 1 <<< (i2 &&& 31) ≤ i7 then
    wk2 N (f_M_bad_134 N nx D P i2 i4 i5) i6 0
  else
    wk2 N (f_M_bad_63 N nx rec49 D P a0 i1 i2 i3 i4 i5 i6 i7) 1 0
def f_M_bad (N nx : Nat) (D : Dt) (P : Ft) (a0 : Nat) (i1 : Int32) (i2 : Int32) (i3 : Int32) (i4 : Int32) : Option (Int32 × Dt) :=
  if kd nx a0 = 9 then
  (f_M_isPerson N nx D P a0 i1).bind fun z1 =>
  if z1 = 0 then
    some ((-1), D)
  else
    (f_M_in N nx D P i2 0 8).bind fun z2 =>
    if z2 = 0 then
      some ((-1), D)
    else
      (f_M_in N nx D P i3 0 10).bind fun z3 =>
      if z3 = 0 then
        some ((-1), D)
      else
        (f_M_in N nx D P i4 0 1).bind fun z4 =>
        if z4 = 0 then
          some ((-1), D)
        else
          wk3 N (f_M_bad_49 N nx P a0 i1 i2 i3 i4 1) D 0 0
  else none
theorem m_M_bad : MV yX9_bad cX9_bad 10 (some .int) 4 := ⟨mT 1199 (by decide +kernel) rfl, mT 1197 (by decide +kernel) rfl, mT 1198 (by decide +kernel) rfl, mT 68 (by decide +kernel) rfl, by decide +kernel, by decide +kernel, by decide +kernel⟩
set_option maxHeartbeats 4000000 in
set_option maxRecDepth 100000 in
theorem c_M_bad (l : Launch) (cx : Cx) (nx N : Nat) (D : Dt) (P : Ft) (a0 : Nat) (i1 : Int32) (i2 : Int32) (i3 : Int32) (i4 : Int32) (z : Int32 × Dt) (h : f_M_bad N nx D P a0 i1 i2 i3 i4 = some z) : Ct l cx yX9_bad cX9_bad 10 (some .int) 5 [.ref (cx.2.2 + a0), .int i1, .int i2, .int i3, .int i4] D P nx (some (.int z.1)) z.2 P := by
  refine x_met0 (by decide) (Nat.le_of_ble_eq_true rfl) ?_
  intro p e s m args below meth c X
  have X : XC p s m args meth c cx cX9_bad 10 (some .int) "HeartPinsModel" "bad" := X
  refine XW.sub (lv' := [(0, .ref (cx.2.2 + a0)), (1, .int i1), (2, .int i2), (3, .int i3), (4, .int i4)]) [0, 1, 2, 3, 4] rfl ?_
  unfold f_M_bad at h
  obtain ⟨hk0, h⟩ := grd h
  have hL161 : ∀ (D : Dt) (i5 : Int32) (i6 : Int32) (n : Nat) (i7 : Int32) (i8 : Int32), wk2 n (f_M_bad_161 N nx D P i4 i5 i6) i7 i8 = some z → XW p l e (rmk 5) s m args below meth c (MQ below (Qx cx (some (.int z.1)) z.2 P nx) args s 0 0 (AA cx)) cx 10 D P nx 0 0 161 [(4, .int i4), (5, .int i5), (6, .int i6), (7, .int i7), (8, .int i8)] [] := by
    intro D i5 i6 n
    induction n with
    | zero => intro i7 i8 h; exact (nonz h).elim
    | succ n ih161 =>
      intro i7 i8 h
      have h : f_M_bad_161 N nx D P i4 i5 i6 (wk2 n (f_M_bad_161 N nx D P i4 i5 i6)) i7 i8 = some z := h
      generalize wk2 n (f_M_bad_161 N nx D P i4 i5 i6) = rec161 at ih161 h
      unfold f_M_bad_161 at h
      refine x_iload (pc := 161) X dX9_bad_161 4 rfl ?_
      refine x_if_eq (tgt := 184) (pc := 163) X dX9_bad_163 (by decide) (fun c9 => ?_) (fun c9 => ?_)
      · have h := ite_t c9 h
        refine x_iload (pc := 184) X dX9_bad_184 0 rfl ?_
        refine x_if_ne (tgt := 197) (pc := 186) X dX9_bad_186 (by decide) (fun c7 => ?_) (fun c7 => ?_)
        · have h := ite_f c7 h
          refine x_iload (pc := 197) X dX9_bad_197 2 rfl ?_
          refine x_iload (pc := 199) X dX9_bad_199 3 rfl ?_
          obtain ⟨k5, h⟩ := grdn h
          refine x_idiv (pc := 201) X dX9_bad_201 k5 ?_
          obtain rfl := Option.some.inj h
          exact x_iret (pc := 202) X dX9_bad_202
        · have h := ite_t c7 h
          refine x_iload (pc := 189) X dX9_bad_189 1 rfl ?_
          refine x_iload (pc := 191) X dX9_bad_191 3 rfl ?_
          obtain ⟨k6, h⟩ := grdn h
          refine x_idiv (pc := 193) X dX9_bad_193 k6 ?_
          refine x_goto (tgt := 202) (pc := 194) X dX9_bad_194 (by decide) ?_
          obtain rfl := Option.some.inj h
          exact x_iret (pc := 202) X dX9_bad_202
      · have h := ite_f c9 h
        refine x_iload (pc := 166) X dX9_bad_166 3 rfl ?_
        refine x_iload (pc := 168) X dX9_bad_168 4 rfl ?_
        obtain ⟨k8, h⟩ := grdn h
        refine x_irem (pc := 170) X dX9_bad_170 k8 ?_
        refine x_istore (lv' := [(9, .int (i7 - i7 / i8 * i8)), (4, .int i4), (5, .int i5), (6, .int i6), (7, .int i7), (8, .int i8)]) (pc := 171) X dX9_bad_171 (by decide) rfl ?_
        refine x_iload (pc := 173) X dX9_bad_173 5 rfl ?_
        refine x_istore (lv' := [(7, .int i8), (9, .int (i7 - i7 / i8 * i8)), (4, .int i4), (5, .int i5), (6, .int i6), (8, .int i8)]) (pc := 175) X dX9_bad_175 (by decide) rfl ?_
        refine x_iload (pc := 177) X dX9_bad_177 1 rfl ?_
        refine x_istore (lv' := [(8, .int (i7 - i7 / i8 * i8)), (7, .int i8), (9, .int (i7 - i7 / i8 * i8)), (4, .int i4), (5, .int i5), (6, .int i6)]) (pc := 179) X dX9_bad_179 (by decide) rfl ?_
        refine x_goto (tgt := 161) (pc := 181) X dX9_bad_181 (by decide) ?_
        exact XW.sub [3, 4, 5, 1, 0] rfl (ih161 _ _ h)
  have hL134 : ∀ (D : Dt) (i5 : Int32) (n : Nat) (i6 : Int32) (i7 : Int32), wk2 n (f_M_bad_134 N nx D P i2 i4 i5) i6 i7 = some z → XW p l e (rmk 5) s m args below meth c (MQ below (Qx cx (some (.int z.1)) z.2 P nx) args s 0 0 (AA cx)) cx 10 D P nx 0 0 134 [(2, .int i2), (4, .int i4), (5, .int i5), (6, .int i6), (7, .int i7)] [] := by
    intro D i5 n
    induction n with
    | zero => intro i6 i7 h; exact (nonz h).elim
    | succ n ih134 =>
      intro i6 i7 h
      have h : f_M_bad_134 N nx D P i2 i4 i5 (wk2 n (f_M_bad_134 N nx D P i2 i4 i5)) i6 i7 = some z := h
      generalize wk2 n (f_M_bad_134 N nx D P i2 i4 i5) = rec134 at ih134 h
      unfold f_M_bad_134 at h
      refine x_iload (pc := 134) X dX9_bad_134 4 rfl ?_
      refine x_iload_n (pc := 136) X dX9_bad_136 (i := 2) rfl 0 rfl ?_
      refine x_icmp_ge (tgt := 153) (pc := 137) X dX9_bad_137 (by decide) (fun c10 => ?_) (fun c10 => ?_)
      · have h := ite_t c10 h
        refine x_iload (pc := 153) X dX9_bad_153 2 rfl ?_
        refine x_istore (lv' := [(7, .int i5), (2, .int i2), (4, .int i4), (5, .int i5), (6, .int i6)]) (pc := 155) X dX9_bad_155 (by decide) rfl ?_
        refine x_iload (pc := 157) X dX9_bad_157 4 rfl ?_
        refine x_istore (lv' := [(8, .int i6), (7, .int i5), (2, .int i2), (4, .int i4), (5, .int i5), (6, .int i6)]) (pc := 159) X dX9_bad_159 (by decide) rfl ?_
        exact XW.sub [3, 4, 5, 1, 0] rfl (hL161 _ _ _ _ _ _ h)
      · have h := ite_f c10 h
        refine x_iload (pc := 140) X dX9_bad_140 3 rfl ?_
        refine x_bipush (v := 10) (pc := 142) X dX9_bad_142 (by decide) ?_
        refine x_imul (pc := 144) X dX9_bad_144 ?_
        refine x_istore (lv' := [(6, .int (i6 * 10)), (2, .int i2), (4, .int i4), (5, .int i5), (7, .int i7)]) (pc := 145) X dX9_bad_145 (by decide) rfl ?_
        refine x_iinc (v := i7 + 1) (lv' := [(7, .int (i7 + 1)), (6, .int (i6 * 10)), (2, .int i2), (4, .int i4), (5, .int i5)]) (pc := 147) X dX9_bad_147 4 rfl rfl (by decide) rfl ?_
        refine x_goto (tgt := 134) (pc := 150) X dX9_bad_150 (by decide) ?_
        exact XW.sub [2, 3, 4, 1, 0] rfl (ih134 _ _ h)
  have hL49 : ∀ (i6 : Int32) (n : Nat) (D : Dt) (i5 : Int32) (i7 : Int32), wk3 n (f_M_bad_49 N nx P a0 i1 i2 i3 i4 i6) D i5 i7 = some z → XW p l e (rmk 5) s m args below meth c (MQ below (Qx cx (some (.int z.1)) z.2 P nx) args s 0 0 (AA cx)) cx 10 D P nx 0 0 49 [(0, .ref (cx.2.2 + a0)), (1, .int i1), (2, .int i2), (3, .int i3), (4, .int i4), (5, .int i5), (6, .int i6), (7, .int i7)] [] := by
    intro i6 n
    induction n with
    | zero => intro D i5 i7 h; exact (nonz h).elim
    | succ n ih49 =>
      intro D i5 i7 h
      have h : f_M_bad_49 N nx P a0 i1 i2 i3 i4 i6 (wk3 n (f_M_bad_49 N nx P a0 i1 i2 i3 i4 i6)) D i5 i7 = some z := h
      generalize wk3 n (f_M_bad_49 N nx P a0 i1 i2 i3 i4 i6) = rec49 at ih49 h
      unfold f_M_bad_49 at h
      have hL63 : ∀ (D : Dt) (i5 : Int32) (i7 : Int32) (n : Nat) (i8 : Int32) (i9 : Int32), wk2 n (f_M_bad_63 N nx rec49 D P a0 i1 i2 i3 i4 i5 i6 i7) i8 i9 = some z → XW p l e (rmk 5) s m args below meth c (MQ below (Qx cx (some (.int z.1)) z.2 P nx) args s 0 0 (AA cx)) cx 10 D P nx 0 0 63 [(0, .ref (cx.2.2 + a0)), (1, .int i1), (2, .int i2), (3, .int i3), (4, .int i4), (5, .int i5), (6, .int i6), (7, .int i7), (8, .int i8), (9, .int i9)] [] := by
        intro D i5 i7 n
        induction n with
        | zero => intro i8 i9 h; exact (nonz h).elim
        | succ n ih63 =>
          intro i8 i9 h
          have h : f_M_bad_63 N nx rec49 D P a0 i1 i2 i3 i4 i5 i6 i7 (wk2 n (f_M_bad_63 N nx rec49 D P a0 i1 i2 i3 i4 i5 i6 i7)) i8 i9 = some z := h
          generalize wk2 n (f_M_bad_63 N nx rec49 D P a0 i1 i2 i3 i4 i5 i6 i7) = rec63 at ih63 h
          unfold f_M_bad_63 at h
          refine x_iload (pc := 63) X dX9_bad_63 9 rfl ?_
          refine x_iload_n (pc := 65) X dX9_bad_65 (i := 2) rfl 2 rfl ?_
          refine x_icmp_ge (tgt := 98) (pc := 66) X dX9_bad_66 (by decide) (fun c16 => ?_) (fun c16 => ?_)
          · have h := ite_t c16 h
            refine x_iload (pc := 98) X dX9_bad_98 5 rfl ?_
            refine x_iload (pc := 100) X dX9_bad_100 8 rfl ?_
            refine x_if_le (tgt := 121) (pc := 102) X dX9_bad_102 (by decide) (fun c13 => ?_) (fun c13 => ?_)
            · have h := ite_t c13 h
              refine x_iconst (v := 0) (pc := 121) X dX9_bad_121 (by decide) ?_
              refine x_iadd (pc := 122) X dX9_bad_122 ?_
              refine x_istore (lv' := [(5, .int (i5 + 0)), (0, .ref (cx.2.2 + a0)), (1, .int i1), (2, .int i2), (3, .int i3), (4, .int i4), (6, .int i6), (7, .int i7), (8, .int i8), (9, .int i9)]) (pc := 123) X dX9_bad_123 (by decide) rfl ?_
              refine x_iinc (v := i7 + 1) (lv' := [(7, .int (i7 + 1)), (5, .int (i5 + 0)), (0, .ref (cx.2.2 + a0)), (1, .int i1), (2, .int i2), (3, .int i3), (4, .int i4), (6, .int i6), (8, .int i8), (9, .int i9)]) (pc := 125) X dX9_bad_125 7 rfl rfl (by decide) rfl ?_
              refine x_goto (tgt := 49) (pc := 128) X dX9_bad_128 (by decide) ?_
              exact XW.sub [2, 3, 4, 5, 6, 1, 7, 0] rfl (ih49 _ _ _ h)
            · have h := ite_f c13 h
              refine x_aload_n (pc := 105) X dX9_bad_105 (i := 0) rfl 0 rfl ?_
              refine x_iload_n (pc := 106) X dX9_bad_106 (i := 1) rfl 1 rfl ?_
              refine x_iload (pc := 107) X dX9_bad_107 7 rfl ?_
              refine x_iload_n (pc := 109) X dX9_bad_109 (i := 2) rfl 2 rfl ?_
              obtain ⟨z11, e11, h⟩ := bnds h
              refine x_callV (pc := 110) (As := [.int i1, .int i7, .int i2]) (st := [.int i5]) (st' := [.int z11.1, .int i5]) X (c_M_breaksBy l cx nx N D P _ _ _ _ z11 e11) dX9_bad_110 w_1200 m_M_breaksBy rfl hk0 (ci := 9) rfl rfl ⟨by decide, by decide⟩ ⟨Nat.zero_le _, Nat.zero_le _⟩ rfl (Nat.le_of_ble_eq_true rfl) rfl ?_
              refine x_if_eq (tgt := 121) (pc := 113) X dX9_bad_113 (by decide) (fun c12 => ?_) (fun c12 => ?_)
              · have h := ite_t c12 h
                refine x_iconst (v := 0) (pc := 121) X dX9_bad_121 (by decide) ?_
                refine x_iadd (pc := 122) X dX9_bad_122 ?_
                refine x_istore (lv' := [(5, .int (i5 + 0)), (0, .ref (cx.2.2 + a0)), (1, .int i1), (2, .int i2), (3, .int i3), (4, .int i4), (6, .int i6), (7, .int i7), (8, .int i8), (9, .int i9)]) (pc := 123) X dX9_bad_123 (by decide) rfl ?_
                refine x_iinc (v := i7 + 1) (lv' := [(7, .int (i7 + 1)), (5, .int (i5 + 0)), (0, .ref (cx.2.2 + a0)), (1, .int i1), (2, .int i2), (3, .int i3), (4, .int i4), (6, .int i6), (8, .int i8), (9, .int i9)]) (pc := 125) X dX9_bad_125 7 rfl rfl (by decide) rfl ?_
                refine x_goto (tgt := 49) (pc := 128) X dX9_bad_128 (by decide) ?_
                exact XW.sub [2, 3, 4, 5, 6, 1, 7, 0] rfl (ih49 _ _ _ h)
              · have h := ite_f c12 h
                refine x_iload (pc := 116) X dX9_bad_116 8 rfl ?_
                refine x_goto (tgt := 122) (pc := 118) X dX9_bad_118 (by decide) ?_
                refine x_iadd (pc := 122) X dX9_bad_122 ?_
                refine x_istore (lv' := [(5, .int (i5 + i8)), (0, .ref (cx.2.2 + a0)), (1, .int i1), (2, .int i2), (3, .int i3), (4, .int i4), (6, .int i6), (7, .int i7), (8, .int i8), (9, .int i9)]) (pc := 123) X dX9_bad_123 (by decide) rfl ?_
                refine x_iinc (v := i7 + 1) (lv' := [(7, .int (i7 + 1)), (5, .int (i5 + i8)), (0, .ref (cx.2.2 + a0)), (1, .int i1), (2, .int i2), (3, .int i3), (4, .int i4), (6, .int i6), (8, .int i8), (9, .int i9)]) (pc := 125) X dX9_bad_125 7 rfl rfl (by decide) rfl ?_
                refine x_goto (tgt := 49) (pc := 128) X dX9_bad_128 (by decide) ?_
                exact XW.sub [2, 3, 4, 5, 6, 1, 7, 0] rfl (ih49 _ _ _ h)
          · have h := ite_f c16 h
            refine x_iload (pc := 69) X dX9_bad_69 8 rfl ?_
            refine x_iload (pc := 71) X dX9_bad_71 7 rfl ?_
            refine x_iload (pc := 73) X dX9_bad_73 9 rfl ?_
            obtain ⟨z14, e14, h⟩ := bnds h
            refine x_callS (pc := 75) (As := [.int i7, .int i9]) (st := [.int i8]) (st' := [.int z14, .int i8]) X (c_M_has l cx nx N D P _ _ z14 e14) dX9_bad_75 w_1043 m_M_has rfl ⟨by decide, by decide⟩ ⟨Nat.zero_le _, Nat.zero_le _⟩ rfl (Nat.le_of_ble_eq_true rfl) rfl ?_
            refine x_if_eq (tgt := 85) (pc := 78) X dX9_bad_78 (by decide) (fun c15 => ?_) (fun c15 => ?_)
            · have h := ite_t c15 h
              refine x_bipush (v := 10) (pc := 85) X dX9_bad_85 (by decide) ?_
              refine x_iload_n (pc := 87) X dX9_bad_87 (i := 3) rfl 3 rfl ?_
              refine x_isub (pc := 88) X dX9_bad_88 ?_
              refine x_imul (pc := 89) X dX9_bad_89 ?_
              refine x_istore (lv' := [(8, .int (i8 * (10 - i3))), (0, .ref (cx.2.2 + a0)), (1, .int i1), (2, .int i2), (3, .int i3), (4, .int i4), (5, .int i5), (6, .int i6), (7, .int i7), (9, .int i9)]) (pc := 90) X dX9_bad_90 (by decide) rfl ?_
              refine x_iinc (v := i9 + 1) (lv' := [(9, .int (i9 + 1)), (8, .int (i8 * (10 - i3))), (0, .ref (cx.2.2 + a0)), (1, .int i1), (2, .int i2), (3, .int i3), (4, .int i4), (5, .int i5), (6, .int i6), (7, .int i7)]) (pc := 92) X dX9_bad_92 9 rfl rfl (by decide) rfl ?_
              refine x_goto (tgt := 63) (pc := 95) X dX9_bad_95 (by decide) ?_
              exact XW.sub [2, 3, 4, 5, 6, 7, 8, 9, 1, 0] rfl (ih63 _ _ h)
            · have h := ite_f c15 h
              refine x_iload_n (pc := 81) X dX9_bad_81 (i := 3) rfl 3 rfl ?_
              refine x_goto (tgt := 89) (pc := 82) X dX9_bad_82 (by decide) ?_
              refine x_imul (pc := 89) X dX9_bad_89 ?_
              refine x_istore (lv' := [(8, .int (i8 * i3)), (0, .ref (cx.2.2 + a0)), (1, .int i1), (2, .int i2), (3, .int i3), (4, .int i4), (5, .int i5), (6, .int i6), (7, .int i7), (9, .int i9)]) (pc := 90) X dX9_bad_90 (by decide) rfl ?_
              refine x_iinc (v := i9 + 1) (lv' := [(9, .int (i9 + 1)), (8, .int (i8 * i3)), (0, .ref (cx.2.2 + a0)), (1, .int i1), (2, .int i2), (3, .int i3), (4, .int i4), (5, .int i5), (6, .int i6), (7, .int i7)]) (pc := 92) X dX9_bad_92 9 rfl rfl (by decide) rfl ?_
              refine x_goto (tgt := 63) (pc := 95) X dX9_bad_95 (by decide) ?_
              exact XW.sub [2, 3, 4, 5, 6, 7, 8, 9, 1, 0] rfl (ih63 _ _ h)
      refine x_iload (pc := 49) X dX9_bad_49 7 rfl ?_
      refine x_iconst (v := 1) (pc := 51) X dX9_bad_51 (by decide) ?_
      refine x_iload_n (pc := 52) X dX9_bad_52 (i := 2) rfl 2 rfl ?_
      refine x_ishl (pc := 53) X dX9_bad_53 ?_
      refine x_icmp_ge (tgt := 131) (pc := 54) X dX9_bad_54 (by decide) (fun c17 => ?_) (fun c17 => ?_)
      · have h := ite_t c17 h
        refine x_iconst (v := 0) (pc := 131) X dX9_bad_131 (by decide) ?_
        refine x_istore (lv' := [(7, .int 0), (0, .ref (cx.2.2 + a0)), (1, .int i1), (2, .int i2), (3, .int i3), (4, .int i4), (5, .int i5), (6, .int i6)]) (pc := 132) X dX9_bad_132 (by decide) rfl ?_
        exact XW.sub [3, 5, 6, 7, 0] rfl (hL134 _ _ _ _ _ h)
      · have h := ite_f c17 h
        refine x_iconst (v := 1) (pc := 57) X dX9_bad_57 (by decide) ?_
        refine x_istore (lv' := [(8, .int 1), (0, .ref (cx.2.2 + a0)), (1, .int i1), (2, .int i2), (3, .int i3), (4, .int i4), (5, .int i5), (6, .int i6), (7, .int i7)]) (pc := 58) X dX9_bad_58 (by decide) rfl ?_
        refine x_iconst (v := 0) (pc := 60) X dX9_bad_60 (by decide) ?_
        refine x_istore (lv' := [(9, .int 0), (8, .int 1), (0, .ref (cx.2.2 + a0)), (1, .int i1), (2, .int i2), (3, .int i3), (4, .int i4), (5, .int i5), (6, .int i6), (7, .int i7)]) (pc := 61) X dX9_bad_61 (by decide) rfl ?_
        exact XW.sub [2, 3, 4, 5, 6, 7, 8, 9, 1, 0] rfl (hL63 _ _ _ _ _ _ h)
  refine x_aload_n (pc := 0) X dX9_bad_0 (i := 0) rfl 0 rfl ?_
  refine x_iload_n (pc := 1) X dX9_bad_1 (i := 1) rfl 1 rfl ?_
  obtain ⟨z1, e1, h⟩ := bnds h
  refine x_callV (pc := 2) (As := [.int i1]) (st := []) (st' := [.int z1]) X (c_M_isPerson l cx nx N D P _ _ z1 e1) dX9_bad_2 w_1027 m_M_isPerson rfl hk0 (ci := 9) rfl rfl ⟨by decide, by decide⟩ ⟨Nat.zero_le _, Nat.zero_le _⟩ rfl (Nat.le_of_ble_eq_true rfl) rfl ?_
  refine x_if_eq (tgt := 38) (pc := 5) X dX9_bad_5 (by decide) (fun c21 => ?_) (fun c21 => ?_)
  · have h := ite_t c21 h
    refine x_iconst (v := (-1)) (pc := 38) X dX9_bad_38 (by decide) ?_
    obtain rfl := Option.some.inj h
    exact x_iret (pc := 39) X dX9_bad_39
  · have h := ite_f c21 h
    refine x_iload_n (pc := 8) X dX9_bad_8 (i := 2) rfl 2 rfl ?_
    refine x_iconst (v := 0) (pc := 9) X dX9_bad_9 (by decide) ?_
    refine x_bipush (v := 8) (pc := 10) X dX9_bad_10 (by decide) ?_
    obtain ⟨z2, e2, h⟩ := bnds h
    refine x_callS (pc := 12) (As := [.int i2, .int 0, .int 8]) (st := []) (st' := [.int z2]) X (c_M_in l cx nx N D P _ _ _ z2 e2) dX9_bad_12 w_972 m_M_in rfl ⟨by decide, by decide⟩ ⟨Nat.zero_le _, Nat.zero_le _⟩ rfl (Nat.le_of_ble_eq_true rfl) rfl ?_
    refine x_if_eq (tgt := 38) (pc := 15) X dX9_bad_15 (by decide) (fun c20 => ?_) (fun c20 => ?_)
    · have h := ite_t c20 h
      refine x_iconst (v := (-1)) (pc := 38) X dX9_bad_38 (by decide) ?_
      obtain rfl := Option.some.inj h
      exact x_iret (pc := 39) X dX9_bad_39
    · have h := ite_f c20 h
      refine x_iload_n (pc := 18) X dX9_bad_18 (i := 3) rfl 3 rfl ?_
      refine x_iconst (v := 0) (pc := 19) X dX9_bad_19 (by decide) ?_
      refine x_bipush (v := 10) (pc := 20) X dX9_bad_20 (by decide) ?_
      obtain ⟨z3, e3, h⟩ := bnds h
      refine x_callS (pc := 22) (As := [.int i3, .int 0, .int 10]) (st := []) (st' := [.int z3]) X (c_M_in l cx nx N D P _ _ _ z3 e3) dX9_bad_22 w_972 m_M_in rfl ⟨by decide, by decide⟩ ⟨Nat.zero_le _, Nat.zero_le _⟩ rfl (Nat.le_of_ble_eq_true rfl) rfl ?_
      refine x_if_eq (tgt := 38) (pc := 25) X dX9_bad_25 (by decide) (fun c19 => ?_) (fun c19 => ?_)
      · have h := ite_t c19 h
        refine x_iconst (v := (-1)) (pc := 38) X dX9_bad_38 (by decide) ?_
        obtain rfl := Option.some.inj h
        exact x_iret (pc := 39) X dX9_bad_39
      · have h := ite_f c19 h
        refine x_iload (pc := 28) X dX9_bad_28 4 rfl ?_
        refine x_iconst (v := 0) (pc := 30) X dX9_bad_30 (by decide) ?_
        refine x_iconst (v := 1) (pc := 31) X dX9_bad_31 (by decide) ?_
        obtain ⟨z4, e4, h⟩ := bnds h
        refine x_callS (pc := 32) (As := [.int i4, .int 0, .int 1]) (st := []) (st' := [.int z4]) X (c_M_in l cx nx N D P _ _ _ z4 e4) dX9_bad_32 w_972 m_M_in rfl ⟨by decide, by decide⟩ ⟨Nat.zero_le _, Nat.zero_le _⟩ rfl (Nat.le_of_ble_eq_true rfl) rfl ?_
        refine x_if_ne (tgt := 40) (pc := 35) X dX9_bad_35 (by decide) (fun c18 => ?_) (fun c18 => ?_)
        · have h := ite_f c18 h
          refine x_iconst (v := 0) (pc := 40) X dX9_bad_40 (by decide) ?_
          refine x_istore (lv' := [(5, .int 0), (0, .ref (cx.2.2 + a0)), (1, .int i1), (2, .int i2), (3, .int i3), (4, .int i4)]) (pc := 41) X dX9_bad_41 (by decide) rfl ?_
          refine x_iconst (v := 1) (pc := 43) X dX9_bad_43 (by decide) ?_
          refine x_istore (lv' := [(6, .int 1), (5, .int 0), (0, .ref (cx.2.2 + a0)), (1, .int i1), (2, .int i2), (3, .int i3), (4, .int i4)]) (pc := 44) X dX9_bad_44 (by decide) rfl ?_
          refine x_iconst (v := 0) (pc := 46) X dX9_bad_46 (by decide) ?_
          refine x_istore (lv' := [(7, .int 0), (6, .int 1), (5, .int 0), (0, .ref (cx.2.2 + a0)), (1, .int i1), (2, .int i2), (3, .int i3), (4, .int i4)]) (pc := 47) X dX9_bad_47 (by decide) rfl ?_
          exact XW.sub [3, 4, 5, 6, 7, 2, 1, 0] rfl (hL49 _ _ _ _ _ h)
        · have h := ite_t c18 h
          refine x_iconst (v := (-1)) (pc := 38) X dX9_bad_38 (by decide) ?_
          obtain rfl := Option.some.inj h
          exact x_iret (pc := 39) X dX9_bad_39
theorem dX9_turn_0 : decode cX9_turn 0 = .ok (.iload_n 1, 1) := by decide +kernel
theorem dX9_turn_1 : decode cX9_turn 1 = .ok (.bipush 8, 2) := by decide +kernel
theorem dX9_turn_3 : decode cX9_turn 3 = .ok (.idiv, 1) := by decide +kernel
theorem dX9_turn_4 : decode cX9_turn 4 = .ok (.aload_n 0, 1) := by decide +kernel
theorem dX9_turn_5 : decode cX9_turn 5 = .ok (.getfield 17, 3) := by decide +kernel
theorem dX9_turn_8 : decode cX9_turn 8 = .ok (.iconst 0, 1) := by decide +kernel
theorem dX9_turn_9 : decode cX9_turn 9 = .ok (.iaload, 1) := by decide +kernel
theorem dX9_turn_10 : decode cX9_turn 10 = .ok (.irem, 1) := by decide +kernel
theorem dX9_turn_11 : decode cX9_turn 11 = .ok (.istore_n 2, 1) := by decide +kernel
theorem dX9_turn_12 : decode cX9_turn 12 = .ok (.iload_n 1, 1) := by decide +kernel
theorem dX9_turn_13 : decode cX9_turn 13 = .ok (.bipush 64, 2) := by decide +kernel
theorem dX9_turn_15 : decode cX9_turn 15 = .ok (.idiv, 1) := by decide +kernel
theorem dX9_turn_16 : decode cX9_turn 16 = .ok (.aload_n 0, 1) := by decide +kernel
theorem dX9_turn_17 : decode cX9_turn 17 = .ok (.getfield 13, 3) := by decide +kernel
theorem dX9_turn_20 : decode cX9_turn 20 = .ok (.iconst 0, 1) := by decide +kernel
theorem dX9_turn_21 : decode cX9_turn 21 = .ok (.iaload, 1) := by decide +kernel
theorem dX9_turn_22 : decode cX9_turn 22 = .ok (.irem, 1) := by decide +kernel
theorem dX9_turn_23 : decode cX9_turn 23 = .ok (.istore_n 3, 1) := by decide +kernel
theorem dX9_turn_24 : decode cX9_turn 24 = .ok (.aload_n 0, 1) := by decide +kernel
theorem dX9_turn_25 : decode cX9_turn 25 = .ok (.getfield 44, 3) := by decide +kernel
theorem dX9_turn_28 : decode cX9_turn 28 = .ok (.iconst 2, 1) := by decide +kernel
theorem dX9_turn_29 : decode cX9_turn 29 = .ok (.iload_n 2, 1) := by decide +kernel
theorem dX9_turn_30 : decode cX9_turn 30 = .ok (.iadd, 1) := by decide +kernel
theorem dX9_turn_31 : decode cX9_turn 31 = .ok (.iaload, 1) := by decide +kernel
theorem dX9_turn_32 : decode cX9_turn 32 = .ok (.istore 4, 2) := by decide +kernel
theorem dX9_turn_34 : decode cX9_turn 34 = .ok (.iload_n 1, 1) := by decide +kernel
theorem dX9_turn_35 : decode cX9_turn 35 = .ok (.bipush 8, 2) := by decide +kernel
theorem dX9_turn_37 : decode cX9_turn 37 = .ok (.irem, 1) := by decide +kernel
theorem dX9_turn_38 : decode cX9_turn 38 = .ok (.tableswitch 124 0 4 #[34, 34, 34, 73, 96], 34) := by decide +kernel
theorem dX9_turn_72 : decode cX9_turn 72 = .ok (.aload_n 0, 1) := by decide +kernel
theorem dX9_turn_73 : decode cX9_turn 73 = .ok (.getfield 44, 3) := by decide +kernel
theorem dX9_turn_76 : decode cX9_turn 76 = .ok (.iconst 2, 1) := by decide +kernel
theorem dX9_turn_77 : decode cX9_turn 77 = .ok (.iload_n 2, 1) := by decide +kernel
theorem dX9_turn_78 : decode cX9_turn 78 = .ok (.iadd, 1) := by decide +kernel
theorem dX9_turn_79 : decode cX9_turn 79 = .ok (.aload_n 0, 1) := by decide +kernel
theorem dX9_turn_80 : decode cX9_turn 80 = .ok (.getfield 44, 3) := by decide +kernel
theorem dX9_turn_83 : decode cX9_turn 83 = .ok (.iload_n 2, 1) := by decide +kernel
theorem dX9_turn_84 : decode cX9_turn 84 = .ok (.invokestatic 145, 3) := by decide +kernel
theorem dX9_turn_87 : decode cX9_turn 87 = .ok (.ifCond .eq 18, 3) := by decide +kernel
theorem dX9_turn_90 : decode cX9_turn 90 = .ok (.aload_n 0, 1) := by decide +kernel
theorem dX9_turn_91 : decode cX9_turn 91 = .ok (.aload_n 0, 1) := by decide +kernel
theorem dX9_turn_92 : decode cX9_turn 92 = .ok (.getfield 44, 3) := by decide +kernel
theorem dX9_turn_95 : decode cX9_turn 95 = .ok (.invokevirtual 181, 3) := by decide +kernel
theorem dX9_turn_98 : decode cX9_turn 98 = .ok (.ifCond .ne 7, 3) := by decide +kernel
theorem dX9_turn_101 : decode cX9_turn 101 = .ok (.iconst 5, 1) := by decide +kernel
theorem dX9_turn_102 : decode cX9_turn 102 = .ok (.goto 5, 3) := by decide +kernel
theorem dX9_turn_105 : decode cX9_turn 105 = .ok (.iload 4, 2) := by decide +kernel
theorem dX9_turn_107 : decode cX9_turn 107 = .ok (.iastore, 1) := by decide +kernel
theorem dX9_turn_108 : decode cX9_turn 108 = .ok (.goto 54, 3) := by decide +kernel
theorem dX9_turn_111 : decode cX9_turn 111 = .ok (.aload_n 0, 1) := by decide +kernel
theorem dX9_turn_112 : decode cX9_turn 112 = .ok (.getfield 44, 3) := by decide +kernel
theorem dX9_turn_115 : decode cX9_turn 115 = .ok (.iconst 2, 1) := by decide +kernel
theorem dX9_turn_116 : decode cX9_turn 116 = .ok (.iload_n 2, 1) := by decide +kernel
theorem dX9_turn_117 : decode cX9_turn 117 = .ok (.iadd, 1) := by decide +kernel
theorem dX9_turn_118 : decode cX9_turn 118 = .ok (.iload 4, 2) := by decide +kernel
theorem dX9_turn_120 : decode cX9_turn 120 = .ok (.iconst 5, 1) := by decide +kernel
theorem dX9_turn_121 : decode cX9_turn 121 = .ok (.if_icmp .ne 7, 3) := by decide +kernel
theorem dX9_turn_124 : decode cX9_turn 124 = .ok (.iload_n 3, 1) := by decide +kernel
theorem dX9_turn_125 : decode cX9_turn 125 = .ok (.goto 5, 3) := by decide +kernel
theorem dX9_turn_128 : decode cX9_turn 128 = .ok (.iload 4, 2) := by decide +kernel
theorem dX9_turn_130 : decode cX9_turn 130 = .ok (.iastore, 1) := by decide +kernel
theorem dX9_turn_131 : decode cX9_turn 131 = .ok (.goto 31, 3) := by decide +kernel
theorem dX9_turn_134 : decode cX9_turn 134 = .ok (.aload_n 0, 1) := by decide +kernel
theorem dX9_turn_135 : decode cX9_turn 135 = .ok (.getfield 44, 3) := by decide +kernel
theorem dX9_turn_138 : decode cX9_turn 138 = .ok (.iconst 2, 1) := by decide +kernel
theorem dX9_turn_139 : decode cX9_turn 139 = .ok (.iload_n 2, 1) := by decide +kernel
theorem dX9_turn_140 : decode cX9_turn 140 = .ok (.iadd, 1) := by decide +kernel
theorem dX9_turn_141 : decode cX9_turn 141 = .ok (.aload_n 0, 1) := by decide +kernel
theorem dX9_turn_142 : decode cX9_turn 142 = .ok (.getfield 44, 3) := by decide +kernel
theorem dX9_turn_145 : decode cX9_turn 145 = .ok (.iload_n 2, 1) := by decide +kernel
theorem dX9_turn_146 : decode cX9_turn 146 = .ok (.invokestatic 145, 3) := by decide +kernel
theorem dX9_turn_149 : decode cX9_turn 149 = .ok (.ifCond .eq 7, 3) := by decide +kernel
theorem dX9_turn_152 : decode cX9_turn 152 = .ok (.iload_n 3, 1) := by decide +kernel
theorem dX9_turn_153 : decode cX9_turn 153 = .ok (.goto 5, 3) := by decide +kernel
theorem dX9_turn_156 : decode cX9_turn 156 = .ok (.iload 4, 2) := by decide +kernel
theorem dX9_turn_158 : decode cX9_turn 158 = .ok (.iastore, 1) := by decide +kernel
theorem dX9_turn_159 : decode cX9_turn 159 = .ok (.goto 3, 3) := by decide +kernel
theorem dX9_turn_162 : decode cX9_turn 162 = .ok (.return_, 1) := by decide +kernel
def f_M_turn (N nx : Nat) (D : Dt) (P : Ft) (a0 : Nat) (i1 : Int32) : Option Dt :=
  if kd nx a0 = 9 then
  nn (P a0 3) fun q2 =>
  if ab nx q2 3 0 = true then
  if D q2 (0 : Int32).toNatClampNeg = 0 then none else
  pas ((i1 / 8) - (i1 / 8) / (D q2 (0 : Int32).toNatClampNeg) * (D q2 (0 : Int32).toNatClampNeg)) fun v5 =>
  nn (P a0 2) fun q7 =>
  if ab nx q7 3 0 = true then
  if D q7 (0 : Int32).toNatClampNeg = 0 then none else
  pas ((i1 / 64) - (i1 / 64) / (D q7 (0 : Int32).toNatClampNeg) * (D q7 (0 : Int32).toNatClampNeg)) fun v10 =>
  nn (P a0 16) fun q11 =>
  if ab nx q11 3 (2 + v5) = true then
  if i1 - i1 / 8 * 8 = 0 then
    (f_M_isBorne N nx D P q11 v5).bind fun z14 =>
    if z14 = 0 then
      if ab nx q11 3 (2 + v5) = true then
      pas (upd2 D q11 (2 + v5).toNatClampNeg (D q11 (2 + v5).toNatClampNeg)) fun D15 =>
      some D15
      else none
    else
      (f_M_isAtDoor N nx D P a0 q11).bind fun z16 =>
      if z16 = 0 then
        if ab nx q11 3 (2 + v5) = true then
        pas (upd2 D q11 (2 + v5).toNatClampNeg 5) fun D18 =>
        some D18
        else none
      else
        if ab nx q11 3 (2 + v5) = true then
        pas (upd2 D q11 (2 + v5).toNatClampNeg (D q11 (2 + v5).toNatClampNeg)) fun D17 =>
        some D17
        else none
  else
    if i1 - i1 / 8 * 8 = 1 then
      (f_M_isBorne N nx D P q11 v5).bind fun z21 =>
      if z21 = 0 then
        if ab nx q11 3 (2 + v5) = true then
        pas (upd2 D q11 (2 + v5).toNatClampNeg (D q11 (2 + v5).toNatClampNeg)) fun D22 =>
        some D22
        else none
      else
        (f_M_isAtDoor N nx D P a0 q11).bind fun z23 =>
        if z23 = 0 then
          if ab nx q11 3 (2 + v5) = true then
          pas (upd2 D q11 (2 + v5).toNatClampNeg 5) fun D25 =>
          some D25
          else none
        else
          if ab nx q11 3 (2 + v5) = true then
          pas (upd2 D q11 (2 + v5).toNatClampNeg (D q11 (2 + v5).toNatClampNeg)) fun D24 =>
          some D24
          else none
    else
      if i1 - i1 / 8 * 8 = 2 then
        (f_M_isBorne N nx D P q11 v5).bind fun z28 =>
        if z28 = 0 then
          if ab nx q11 3 (2 + v5) = true then
          pas (upd2 D q11 (2 + v5).toNatClampNeg (D q11 (2 + v5).toNatClampNeg)) fun D29 =>
          some D29
          else none
        else
          (f_M_isAtDoor N nx D P a0 q11).bind fun z30 =>
          if z30 = 0 then
            if ab nx q11 3 (2 + v5) = true then
            pas (upd2 D q11 (2 + v5).toNatClampNeg 5) fun D32 =>
            some D32
            else none
          else
            if ab nx q11 3 (2 + v5) = true then
            pas (upd2 D q11 (2 + v5).toNatClampNeg (D q11 (2 + v5).toNatClampNeg)) fun D31 =>
            some D31
            else none
      else
        if i1 - i1 / 8 * 8 = 3 then
          if D q11 (2 + v5).toNatClampNeg = 5 then
            if ab nx q11 3 (2 + v5) = true then
            pas (upd2 D q11 (2 + v5).toNatClampNeg v10) fun D36 =>
            some D36
            else none
          else
            if ab nx q11 3 (2 + v5) = true then
            pas (upd2 D q11 (2 + v5).toNatClampNeg (D q11 (2 + v5).toNatClampNeg)) fun D35 =>
            some D35
            else none
        else
          if i1 - i1 / 8 * 8 = 4 then
            (f_M_isBorne N nx D P q11 v5).bind fun z38 =>
            if z38 = 0 then
              if ab nx q11 3 (2 + v5) = true then
              pas (upd2 D q11 (2 + v5).toNatClampNeg (D q11 (2 + v5).toNatClampNeg)) fun D39 =>
              some D39
              else none
            else
              if ab nx q11 3 (2 + v5) = true then
              pas (upd2 D q11 (2 + v5).toNatClampNeg v10) fun D40 =>
              some D40
              else none
          else
            some D
  else none
  else none
  else none
  else none
theorem m_M_turn : MV yX9_turn cX9_turn 5 none 1 := ⟨mT 1214 (by decide +kernel) rfl, mT 1213 (by decide +kernel) rfl, mT 52 (by decide +kernel) rfl, mT 68 (by decide +kernel) rfl, by decide +kernel, by decide +kernel, by decide +kernel⟩
set_option maxHeartbeats 4000000 in
set_option maxRecDepth 100000 in
theorem c_M_turn (l : Launch) (cx : Cx) (nx N : Nat) (D : Dt) (P : Ft) (a0 : Nat) (i1 : Int32) (z : Dt) (h : f_M_turn N nx D P a0 i1 = some z) : Ct l cx yX9_turn cX9_turn 5 none 1 [.ref (cx.2.2 + a0), .int i1] D P nx none z P := by
  refine x_met0 (by decide) (Nat.le_of_ble_eq_true rfl) ?_
  intro p e s m args below meth c X
  have X : XC p s m args meth c cx cX9_turn 5 none "HeartPinsModel" "turn" := X
  refine XW.sub (lv' := [(0, .ref (cx.2.2 + a0)), (1, .int i1)]) [0, 1] rfl ?_
  unfold f_M_turn at h
  obtain ⟨hk0, h⟩ := grd h
  refine x_iload_n (pc := 0) X dX9_turn_0 (i := 1) rfl 1 rfl ?_
  refine x_bipush (v := 8) (pc := 1) X dX9_turn_1 (by decide) ?_
  refine x_idiv (pc := 3) X dX9_turn_3 (by decide) ?_
  refine x_aload_n (pc := 4) X dX9_turn_4 (i := 0) rfl 0 rfl ?_
  obtain ⟨q2, e2, h⟩ := nns h
  refine x_getr (ci := 9) (k := 3) (n := 26) (C := RX9) (T := TX9) (pc := 5) X dX9_turn_5 hk0 rfl (by decide) w_892 rfl e2 ?_
  refine x_iconst (v := 0) (pc := 8) X dX9_turn_8 (by decide) ?_
  obtain ⟨g3, h⟩ := grd h
  refine x_iald (pc := 9) X dX9_turn_9 g3 ?_
  obtain ⟨k4, h⟩ := grdn h
  refine x_irem (pc := 10) X dX9_turn_10 k4 ?_
  obtain ⟨v5, w5, h⟩ := pass h
  refine x_nm w5 ?_
  refine x_istore_n (lv' := [(2, .int v5), (0, .ref (cx.2.2 + a0)), (1, .int i1)]) (pc := 11) X dX9_turn_11 (i := 2) rfl (by decide) rfl ?_
  refine x_iload_n (pc := 12) X dX9_turn_12 (i := 1) rfl 2 rfl ?_
  refine x_bipush (v := 64) (pc := 13) X dX9_turn_13 (by decide) ?_
  refine x_idiv (pc := 15) X dX9_turn_15 (by decide) ?_
  refine x_aload_n (pc := 16) X dX9_turn_16 (i := 0) rfl 1 rfl ?_
  obtain ⟨q7, e7, h⟩ := nns h
  refine x_getr (ci := 9) (k := 2) (n := 26) (C := RX9) (T := TX9) (pc := 17) X dX9_turn_17 hk0 rfl (by decide) w_891 rfl e7 ?_
  refine x_iconst (v := 0) (pc := 20) X dX9_turn_20 (by decide) ?_
  obtain ⟨g8, h⟩ := grd h
  refine x_iald (pc := 21) X dX9_turn_21 g8 ?_
  obtain ⟨k9, h⟩ := grdn h
  refine x_irem (pc := 22) X dX9_turn_22 k9 ?_
  obtain ⟨v10, w10, h⟩ := pass h
  refine x_nm w10 ?_
  refine x_istore_n (lv' := [(3, .int v10), (2, .int v5), (0, .ref (cx.2.2 + a0)), (1, .int i1)]) (pc := 23) X dX9_turn_23 (i := 3) rfl (by decide) rfl ?_
  refine x_aload_n (pc := 24) X dX9_turn_24 (i := 0) rfl 2 rfl ?_
  obtain ⟨q11, e11, h⟩ := nns h
  refine x_getr (ci := 9) (k := 16) (n := 26) (C := RX9) (T := TX9) (pc := 25) X dX9_turn_25 hk0 rfl (by decide) w_905 rfl e11 ?_
  refine x_iconst (v := 2) (pc := 28) X dX9_turn_28 (by decide) ?_
  refine x_iload_n (pc := 29) X dX9_turn_29 (i := 2) rfl 1 rfl ?_
  refine x_iadd (pc := 30) X dX9_turn_30 ?_
  obtain ⟨g12, h⟩ := grd h
  refine x_iald (pc := 31) X dX9_turn_31 g12 ?_
  refine x_istore (lv' := [(4, .int (D q11 (2 + v5).toNatClampNeg)), (3, .int v10), (2, .int v5), (0, .ref (cx.2.2 + a0)), (1, .int i1)]) (pc := 32) X dX9_turn_32 (by decide) rfl ?_
  refine x_iload_n (pc := 34) X dX9_turn_34 (i := 1) rfl 4 rfl ?_
  refine x_bipush (v := 8) (pc := 35) X dX9_turn_35 (by decide) ?_
  refine x_irem (pc := 37) X dX9_turn_37 (by decide) ?_
  by_cases cs38_0 : i1 - i1 / 8 * 8 = 0
  · have h := ite_t cs38_0 h
    refine x_tsw (off := 34) (tgt := 72) (pc := 38) X 0 dX9_turn_38 cs38_0 (by decide) (by decide) (by decide) (by decide) ?_
    refine x_aload_n (pc := 72) X dX9_turn_72 (i := 0) rfl 3 rfl ?_
    refine x_getr (ci := 9) (k := 16) (n := 26) (C := RX9) (T := TX9) (pc := 73) X dX9_turn_73 hk0 rfl (by decide) w_905 rfl e11 ?_
    refine x_iconst (v := 2) (pc := 76) X dX9_turn_76 (by decide) ?_
    refine x_iload_n (pc := 77) X dX9_turn_77 (i := 2) rfl 2 rfl ?_
    refine x_iadd (pc := 78) X dX9_turn_78 ?_
    refine x_aload_n (pc := 79) X dX9_turn_79 (i := 0) rfl 3 rfl ?_
    refine x_getr (ci := 9) (k := 16) (n := 26) (C := RX9) (T := TX9) (pc := 80) X dX9_turn_80 hk0 rfl (by decide) w_905 rfl e11 ?_
    refine x_iload_n (pc := 83) X dX9_turn_83 (i := 2) rfl 2 rfl ?_
    obtain ⟨z14, e14, h⟩ := bnds h
    refine x_callS (pc := 84) (As := [.ref (cx.2.2 + q11), .int v5]) (st := [.int (2 + v5), .ref (cx.2.2 + q11)]) (st' := [.int z14, .int (2 + v5), .ref (cx.2.2 + q11)]) X (c_M_isBorne l cx nx N D P _ _ z14 e14) dX9_turn_84 w_1058 m_M_isBorne rfl ⟨by decide, by decide⟩ ⟨Nat.zero_le _, Nat.zero_le _⟩ rfl (Nat.le_of_ble_eq_true rfl) rfl ?_
    refine x_if_eq (tgt := 105) (pc := 87) X dX9_turn_87 (by decide) (fun c20 => ?_) (fun c20 => ?_)
    · have h := ite_t c20 h
      refine x_iload (pc := 105) X dX9_turn_105 0 rfl ?_
      obtain ⟨g15, h⟩ := grd h
      obtain ⟨D15, w15, h⟩ := pass h
      refine x_iast (D' := D15) (pc := 107) X dX9_turn_107 g15 w15 ?_
      refine x_goto (tgt := 162) (pc := 108) X dX9_turn_108 (by decide) ?_
      obtain rfl := Option.some.inj h
      exact x_vret (pc := 162) X dX9_turn_162
    · have h := ite_f c20 h
      refine x_aload_n (pc := 90) X dX9_turn_90 (i := 0) rfl 3 rfl ?_
      refine x_aload_n (pc := 91) X dX9_turn_91 (i := 0) rfl 3 rfl ?_
      refine x_getr (ci := 9) (k := 16) (n := 26) (C := RX9) (T := TX9) (pc := 92) X dX9_turn_92 hk0 rfl (by decide) w_905 rfl e11 ?_
      obtain ⟨z16, e16, h⟩ := bnds h
      refine x_callV (pc := 95) (As := [.ref (cx.2.2 + q11)]) (st := [.int (2 + v5), .ref (cx.2.2 + q11)]) (st' := [.int z16, .int (2 + v5), .ref (cx.2.2 + q11)]) X (c_M_isAtDoor l cx nx N D P _ _ z16 e16) dX9_turn_95 w_1069 m_M_isAtDoor rfl hk0 (ci := 9) rfl rfl ⟨by decide, by decide⟩ ⟨Nat.zero_le _, Nat.zero_le _⟩ rfl (Nat.le_of_ble_eq_true rfl) rfl ?_
      refine x_if_ne (tgt := 105) (pc := 98) X dX9_turn_98 (by decide) (fun c19 => ?_) (fun c19 => ?_)
      · have h := ite_f c19 h
        refine x_iload (pc := 105) X dX9_turn_105 0 rfl ?_
        obtain ⟨g17, h⟩ := grd h
        obtain ⟨D17, w17, h⟩ := pass h
        refine x_iast (D' := D17) (pc := 107) X dX9_turn_107 g17 w17 ?_
        refine x_goto (tgt := 162) (pc := 108) X dX9_turn_108 (by decide) ?_
        obtain rfl := Option.some.inj h
        exact x_vret (pc := 162) X dX9_turn_162
      · have h := ite_t c19 h
        refine x_iconst (v := 5) (pc := 101) X dX9_turn_101 (by decide) ?_
        refine x_goto (tgt := 107) (pc := 102) X dX9_turn_102 (by decide) ?_
        obtain ⟨g18, h⟩ := grd h
        obtain ⟨D18, w18, h⟩ := pass h
        refine x_iast (D' := D18) (pc := 107) X dX9_turn_107 g18 w18 ?_
        refine x_goto (tgt := 162) (pc := 108) X dX9_turn_108 (by decide) ?_
        obtain rfl := Option.some.inj h
        exact x_vret (pc := 162) X dX9_turn_162
  · have h := ite_f cs38_0 h
    by_cases cs38_1 : i1 - i1 / 8 * 8 = 1
    · have h := ite_t cs38_1 h
      refine x_tsw (off := 34) (tgt := 72) (pc := 38) X 1 dX9_turn_38 cs38_1 (by decide) (by decide) (by decide) (by decide) ?_
      refine x_aload_n (pc := 72) X dX9_turn_72 (i := 0) rfl 3 rfl ?_
      refine x_getr (ci := 9) (k := 16) (n := 26) (C := RX9) (T := TX9) (pc := 73) X dX9_turn_73 hk0 rfl (by decide) w_905 rfl e11 ?_
      refine x_iconst (v := 2) (pc := 76) X dX9_turn_76 (by decide) ?_
      refine x_iload_n (pc := 77) X dX9_turn_77 (i := 2) rfl 2 rfl ?_
      refine x_iadd (pc := 78) X dX9_turn_78 ?_
      refine x_aload_n (pc := 79) X dX9_turn_79 (i := 0) rfl 3 rfl ?_
      refine x_getr (ci := 9) (k := 16) (n := 26) (C := RX9) (T := TX9) (pc := 80) X dX9_turn_80 hk0 rfl (by decide) w_905 rfl e11 ?_
      refine x_iload_n (pc := 83) X dX9_turn_83 (i := 2) rfl 2 rfl ?_
      obtain ⟨z21, e21, h⟩ := bnds h
      refine x_callS (pc := 84) (As := [.ref (cx.2.2 + q11), .int v5]) (st := [.int (2 + v5), .ref (cx.2.2 + q11)]) (st' := [.int z21, .int (2 + v5), .ref (cx.2.2 + q11)]) X (c_M_isBorne l cx nx N D P _ _ z21 e21) dX9_turn_84 w_1058 m_M_isBorne rfl ⟨by decide, by decide⟩ ⟨Nat.zero_le _, Nat.zero_le _⟩ rfl (Nat.le_of_ble_eq_true rfl) rfl ?_
      refine x_if_eq (tgt := 105) (pc := 87) X dX9_turn_87 (by decide) (fun c27 => ?_) (fun c27 => ?_)
      · have h := ite_t c27 h
        refine x_iload (pc := 105) X dX9_turn_105 0 rfl ?_
        obtain ⟨g22, h⟩ := grd h
        obtain ⟨D22, w22, h⟩ := pass h
        refine x_iast (D' := D22) (pc := 107) X dX9_turn_107 g22 w22 ?_
        refine x_goto (tgt := 162) (pc := 108) X dX9_turn_108 (by decide) ?_
        obtain rfl := Option.some.inj h
        exact x_vret (pc := 162) X dX9_turn_162
      · have h := ite_f c27 h
        refine x_aload_n (pc := 90) X dX9_turn_90 (i := 0) rfl 3 rfl ?_
        refine x_aload_n (pc := 91) X dX9_turn_91 (i := 0) rfl 3 rfl ?_
        refine x_getr (ci := 9) (k := 16) (n := 26) (C := RX9) (T := TX9) (pc := 92) X dX9_turn_92 hk0 rfl (by decide) w_905 rfl e11 ?_
        obtain ⟨z23, e23, h⟩ := bnds h
        refine x_callV (pc := 95) (As := [.ref (cx.2.2 + q11)]) (st := [.int (2 + v5), .ref (cx.2.2 + q11)]) (st' := [.int z23, .int (2 + v5), .ref (cx.2.2 + q11)]) X (c_M_isAtDoor l cx nx N D P _ _ z23 e23) dX9_turn_95 w_1069 m_M_isAtDoor rfl hk0 (ci := 9) rfl rfl ⟨by decide, by decide⟩ ⟨Nat.zero_le _, Nat.zero_le _⟩ rfl (Nat.le_of_ble_eq_true rfl) rfl ?_
        refine x_if_ne (tgt := 105) (pc := 98) X dX9_turn_98 (by decide) (fun c26 => ?_) (fun c26 => ?_)
        · have h := ite_f c26 h
          refine x_iload (pc := 105) X dX9_turn_105 0 rfl ?_
          obtain ⟨g24, h⟩ := grd h
          obtain ⟨D24, w24, h⟩ := pass h
          refine x_iast (D' := D24) (pc := 107) X dX9_turn_107 g24 w24 ?_
          refine x_goto (tgt := 162) (pc := 108) X dX9_turn_108 (by decide) ?_
          obtain rfl := Option.some.inj h
          exact x_vret (pc := 162) X dX9_turn_162
        · have h := ite_t c26 h
          refine x_iconst (v := 5) (pc := 101) X dX9_turn_101 (by decide) ?_
          refine x_goto (tgt := 107) (pc := 102) X dX9_turn_102 (by decide) ?_
          obtain ⟨g25, h⟩ := grd h
          obtain ⟨D25, w25, h⟩ := pass h
          refine x_iast (D' := D25) (pc := 107) X dX9_turn_107 g25 w25 ?_
          refine x_goto (tgt := 162) (pc := 108) X dX9_turn_108 (by decide) ?_
          obtain rfl := Option.some.inj h
          exact x_vret (pc := 162) X dX9_turn_162
    · have h := ite_f cs38_1 h
      by_cases cs38_2 : i1 - i1 / 8 * 8 = 2
      · have h := ite_t cs38_2 h
        refine x_tsw (off := 34) (tgt := 72) (pc := 38) X 2 dX9_turn_38 cs38_2 (by decide) (by decide) (by decide) (by decide) ?_
        refine x_aload_n (pc := 72) X dX9_turn_72 (i := 0) rfl 3 rfl ?_
        refine x_getr (ci := 9) (k := 16) (n := 26) (C := RX9) (T := TX9) (pc := 73) X dX9_turn_73 hk0 rfl (by decide) w_905 rfl e11 ?_
        refine x_iconst (v := 2) (pc := 76) X dX9_turn_76 (by decide) ?_
        refine x_iload_n (pc := 77) X dX9_turn_77 (i := 2) rfl 2 rfl ?_
        refine x_iadd (pc := 78) X dX9_turn_78 ?_
        refine x_aload_n (pc := 79) X dX9_turn_79 (i := 0) rfl 3 rfl ?_
        refine x_getr (ci := 9) (k := 16) (n := 26) (C := RX9) (T := TX9) (pc := 80) X dX9_turn_80 hk0 rfl (by decide) w_905 rfl e11 ?_
        refine x_iload_n (pc := 83) X dX9_turn_83 (i := 2) rfl 2 rfl ?_
        obtain ⟨z28, e28, h⟩ := bnds h
        refine x_callS (pc := 84) (As := [.ref (cx.2.2 + q11), .int v5]) (st := [.int (2 + v5), .ref (cx.2.2 + q11)]) (st' := [.int z28, .int (2 + v5), .ref (cx.2.2 + q11)]) X (c_M_isBorne l cx nx N D P _ _ z28 e28) dX9_turn_84 w_1058 m_M_isBorne rfl ⟨by decide, by decide⟩ ⟨Nat.zero_le _, Nat.zero_le _⟩ rfl (Nat.le_of_ble_eq_true rfl) rfl ?_
        refine x_if_eq (tgt := 105) (pc := 87) X dX9_turn_87 (by decide) (fun c34 => ?_) (fun c34 => ?_)
        · have h := ite_t c34 h
          refine x_iload (pc := 105) X dX9_turn_105 0 rfl ?_
          obtain ⟨g29, h⟩ := grd h
          obtain ⟨D29, w29, h⟩ := pass h
          refine x_iast (D' := D29) (pc := 107) X dX9_turn_107 g29 w29 ?_
          refine x_goto (tgt := 162) (pc := 108) X dX9_turn_108 (by decide) ?_
          obtain rfl := Option.some.inj h
          exact x_vret (pc := 162) X dX9_turn_162
        · have h := ite_f c34 h
          refine x_aload_n (pc := 90) X dX9_turn_90 (i := 0) rfl 3 rfl ?_
          refine x_aload_n (pc := 91) X dX9_turn_91 (i := 0) rfl 3 rfl ?_
          refine x_getr (ci := 9) (k := 16) (n := 26) (C := RX9) (T := TX9) (pc := 92) X dX9_turn_92 hk0 rfl (by decide) w_905 rfl e11 ?_
          obtain ⟨z30, e30, h⟩ := bnds h
          refine x_callV (pc := 95) (As := [.ref (cx.2.2 + q11)]) (st := [.int (2 + v5), .ref (cx.2.2 + q11)]) (st' := [.int z30, .int (2 + v5), .ref (cx.2.2 + q11)]) X (c_M_isAtDoor l cx nx N D P _ _ z30 e30) dX9_turn_95 w_1069 m_M_isAtDoor rfl hk0 (ci := 9) rfl rfl ⟨by decide, by decide⟩ ⟨Nat.zero_le _, Nat.zero_le _⟩ rfl (Nat.le_of_ble_eq_true rfl) rfl ?_
          refine x_if_ne (tgt := 105) (pc := 98) X dX9_turn_98 (by decide) (fun c33 => ?_) (fun c33 => ?_)
          · have h := ite_f c33 h
            refine x_iload (pc := 105) X dX9_turn_105 0 rfl ?_
            obtain ⟨g31, h⟩ := grd h
            obtain ⟨D31, w31, h⟩ := pass h
            refine x_iast (D' := D31) (pc := 107) X dX9_turn_107 g31 w31 ?_
            refine x_goto (tgt := 162) (pc := 108) X dX9_turn_108 (by decide) ?_
            obtain rfl := Option.some.inj h
            exact x_vret (pc := 162) X dX9_turn_162
          · have h := ite_t c33 h
            refine x_iconst (v := 5) (pc := 101) X dX9_turn_101 (by decide) ?_
            refine x_goto (tgt := 107) (pc := 102) X dX9_turn_102 (by decide) ?_
            obtain ⟨g32, h⟩ := grd h
            obtain ⟨D32, w32, h⟩ := pass h
            refine x_iast (D' := D32) (pc := 107) X dX9_turn_107 g32 w32 ?_
            refine x_goto (tgt := 162) (pc := 108) X dX9_turn_108 (by decide) ?_
            obtain rfl := Option.some.inj h
            exact x_vret (pc := 162) X dX9_turn_162
      · have h := ite_f cs38_2 h
        by_cases cs38_3 : i1 - i1 / 8 * 8 = 3
        · have h := ite_t cs38_3 h
          refine x_tsw (off := 73) (tgt := 111) (pc := 38) X 3 dX9_turn_38 cs38_3 (by decide) (by decide) (by decide) (by decide) ?_
          refine x_aload_n (pc := 111) X dX9_turn_111 (i := 0) rfl 3 rfl ?_
          refine x_getr (ci := 9) (k := 16) (n := 26) (C := RX9) (T := TX9) (pc := 112) X dX9_turn_112 hk0 rfl (by decide) w_905 rfl e11 ?_
          refine x_iconst (v := 2) (pc := 115) X dX9_turn_115 (by decide) ?_
          refine x_iload_n (pc := 116) X dX9_turn_116 (i := 2) rfl 2 rfl ?_
          refine x_iadd (pc := 117) X dX9_turn_117 ?_
          refine x_iload (pc := 118) X dX9_turn_118 0 rfl ?_
          refine x_iconst (v := 5) (pc := 120) X dX9_turn_120 (by decide) ?_
          refine x_icmp_ne (tgt := 128) (pc := 121) X dX9_turn_121 (by decide) (fun c37 => ?_) (fun c37 => ?_)
          · have h := ite_f c37 h
            refine x_iload (pc := 128) X dX9_turn_128 0 rfl ?_
            obtain ⟨g35, h⟩ := grd h
            obtain ⟨D35, w35, h⟩ := pass h
            refine x_iast (D' := D35) (pc := 130) X dX9_turn_130 g35 w35 ?_
            refine x_goto (tgt := 162) (pc := 131) X dX9_turn_131 (by decide) ?_
            obtain rfl := Option.some.inj h
            exact x_vret (pc := 162) X dX9_turn_162
          · have h := ite_t c37 h
            refine x_iload_n (pc := 124) X dX9_turn_124 (i := 3) rfl 1 rfl ?_
            refine x_goto (tgt := 130) (pc := 125) X dX9_turn_125 (by decide) ?_
            obtain ⟨g36, h⟩ := grd h
            obtain ⟨D36, w36, h⟩ := pass h
            refine x_iast (D' := D36) (pc := 130) X dX9_turn_130 g36 w36 ?_
            refine x_goto (tgt := 162) (pc := 131) X dX9_turn_131 (by decide) ?_
            obtain rfl := Option.some.inj h
            exact x_vret (pc := 162) X dX9_turn_162
        · have h := ite_f cs38_3 h
          by_cases cs38_4 : i1 - i1 / 8 * 8 = 4
          · have h := ite_t cs38_4 h
            refine x_tsw (off := 96) (tgt := 134) (pc := 38) X 4 dX9_turn_38 cs38_4 (by decide) (by decide) (by decide) (by decide) ?_
            refine x_aload_n (pc := 134) X dX9_turn_134 (i := 0) rfl 3 rfl ?_
            refine x_getr (ci := 9) (k := 16) (n := 26) (C := RX9) (T := TX9) (pc := 135) X dX9_turn_135 hk0 rfl (by decide) w_905 rfl e11 ?_
            refine x_iconst (v := 2) (pc := 138) X dX9_turn_138 (by decide) ?_
            refine x_iload_n (pc := 139) X dX9_turn_139 (i := 2) rfl 2 rfl ?_
            refine x_iadd (pc := 140) X dX9_turn_140 ?_
            refine x_aload_n (pc := 141) X dX9_turn_141 (i := 0) rfl 3 rfl ?_
            refine x_getr (ci := 9) (k := 16) (n := 26) (C := RX9) (T := TX9) (pc := 142) X dX9_turn_142 hk0 rfl (by decide) w_905 rfl e11 ?_
            refine x_iload_n (pc := 145) X dX9_turn_145 (i := 2) rfl 2 rfl ?_
            obtain ⟨z38, e38, h⟩ := bnds h
            refine x_callS (pc := 146) (As := [.ref (cx.2.2 + q11), .int v5]) (st := [.int (2 + v5), .ref (cx.2.2 + q11)]) (st' := [.int z38, .int (2 + v5), .ref (cx.2.2 + q11)]) X (c_M_isBorne l cx nx N D P _ _ z38 e38) dX9_turn_146 w_1058 m_M_isBorne rfl ⟨by decide, by decide⟩ ⟨Nat.zero_le _, Nat.zero_le _⟩ rfl (Nat.le_of_ble_eq_true rfl) rfl ?_
            refine x_if_eq (tgt := 156) (pc := 149) X dX9_turn_149 (by decide) (fun c41 => ?_) (fun c41 => ?_)
            · have h := ite_t c41 h
              refine x_iload (pc := 156) X dX9_turn_156 0 rfl ?_
              obtain ⟨g39, h⟩ := grd h
              obtain ⟨D39, w39, h⟩ := pass h
              refine x_iast (D' := D39) (pc := 158) X dX9_turn_158 g39 w39 ?_
              refine x_goto (tgt := 162) (pc := 159) X dX9_turn_159 (by decide) ?_
              obtain rfl := Option.some.inj h
              exact x_vret (pc := 162) X dX9_turn_162
            · have h := ite_f c41 h
              refine x_iload_n (pc := 152) X dX9_turn_152 (i := 3) rfl 1 rfl ?_
              refine x_goto (tgt := 158) (pc := 153) X dX9_turn_153 (by decide) ?_
              obtain ⟨g40, h⟩ := grd h
              obtain ⟨D40, w40, h⟩ := pass h
              refine x_iast (D' := D40) (pc := 158) X dX9_turn_158 g40 w40 ?_
              refine x_goto (tgt := 162) (pc := 159) X dX9_turn_159 (by decide) ?_
              obtain rfl := Option.some.inj h
              exact x_vret (pc := 162) X dX9_turn_162
          · have h := ite_f cs38_4 h
            refine x_tswd (tgt := 162) (pc := 38) X dX9_turn_38 (sw_outg (lo := 0) (n := 5) (by decide) (by decide) rfl (fun k hk => ?_)) (by decide) ?_
            · rcases (show k = 0 ∨ k = 1 ∨ k = 2 ∨ k = 3 ∨ k = 4 by omega) with rfl | rfl | rfl | rfl | rfl
              · exact fun y => cs38_0 (y.trans (by decide))
              · exact fun y => cs38_1 (y.trans (by decide))
              · exact fun y => cs38_2 (y.trans (by decide))
              · exact fun y => cs38_3 (y.trans (by decide))
              · exact fun y => cs38_4 (y.trans (by decide))
            · obtain rfl := Option.some.inj h
              exact x_vret (pc := 162) X dX9_turn_162
theorem dX9_month_0 : decode cX9_month 0 = .ok (.iload_n 1, 1) := by decide +kernel
theorem dX9_month_1 : decode cX9_month 1 = .ok (.iconst 0, 1) := by decide +kernel
theorem dX9_month_2 : decode cX9_month 2 = .ok (.sipush 9999, 3) := by decide +kernel
theorem dX9_month_5 : decode cX9_month 5 = .ok (.invokestatic 74, 3) := by decide +kernel
theorem dX9_month_8 : decode cX9_month 8 = .ok (.ifCond .eq 22, 3) := by decide +kernel
theorem dX9_month_11 : decode cX9_month 11 = .ok (.iload_n 2, 1) := by decide +kernel
theorem dX9_month_12 : decode cX9_month 12 = .ok (.iconst 1, 1) := by decide +kernel
theorem dX9_month_13 : decode cX9_month 13 = .ok (.bipush 60, 2) := by decide +kernel
theorem dX9_month_15 : decode cX9_month 15 = .ok (.invokestatic 74, 3) := by decide +kernel
theorem dX9_month_18 : decode cX9_month 18 = .ok (.ifCond .eq 12, 3) := by decide +kernel
theorem dX9_month_21 : decode cX9_month 21 = .ok (.iload_n 3, 1) := by decide +kernel
theorem dX9_month_22 : decode cX9_month 22 = .ok (.iconst 0, 1) := by decide +kernel
theorem dX9_month_23 : decode cX9_month 23 = .ok (.iconst 1, 1) := by decide +kernel
theorem dX9_month_24 : decode cX9_month 24 = .ok (.invokestatic 74, 3) := by decide +kernel
theorem dX9_month_27 : decode cX9_month 27 = .ok (.ifCond .ne 5, 3) := by decide +kernel
theorem dX9_month_30 : decode cX9_month 30 = .ok (.iconst (-1), 1) := by decide +kernel
theorem dX9_month_31 : decode cX9_month 31 = .ok (.ireturn, 1) := by decide +kernel
theorem dX9_month_32 : decode cX9_month 32 = .ok (.aload_n 0, 1) := by decide +kernel
theorem dX9_month_33 : decode cX9_month 33 = .ok (.invokevirtual 191, 3) := by decide +kernel
theorem dX9_month_36 : decode cX9_month 36 = .ok (.iconst 0, 1) := by decide +kernel
theorem dX9_month_37 : decode cX9_month 37 = .ok (.istore 4, 2) := by decide +kernel
theorem dX9_month_39 : decode cX9_month 39 = .ok (.iload 4, 2) := by decide +kernel
theorem dX9_month_41 : decode cX9_month 41 = .ok (.iload_n 2, 1) := by decide +kernel
theorem dX9_month_42 : decode cX9_month 42 = .ok (.if_icmp .ge 58, 3) := by decide +kernel
theorem dX9_month_45 : decode cX9_month 45 = .ok (.ldc2_w 227, 3) := by decide +kernel
theorem dX9_month_48 : decode cX9_month 48 = .ok (.iload_n 1, 1) := by decide +kernel
theorem dX9_month_49 : decode cX9_month 49 = .ok (.i2l, 1) := by decide +kernel
theorem dX9_month_50 : decode cX9_month 50 = .ok (.lmul, 1) := by decide +kernel
theorem dX9_month_51 : decode cX9_month 51 = .ok (.ldc2_w 229, 3) := by decide +kernel
theorem dX9_month_54 : decode cX9_month 54 = .ok (.iload 4, 2) := by decide +kernel
theorem dX9_month_56 : decode cX9_month 56 = .ok (.i2l, 1) := by decide +kernel
theorem dX9_month_57 : decode cX9_month 57 = .ok (.lmul, 1) := by decide +kernel
theorem dX9_month_58 : decode cX9_month 58 = .ok (.ladd, 1) := by decide +kernel
theorem dX9_month_59 : decode cX9_month 59 = .ok (.lconst 1, 1) := by decide +kernel
theorem dX9_month_60 : decode cX9_month 60 = .ok (.ladd, 1) := by decide +kernel
theorem dX9_month_61 : decode cX9_month 61 = .ok (.lstore 5, 2) := by decide +kernel
theorem dX9_month_63 : decode cX9_month 63 = .ok (.aload_n 0, 1) := by decide +kernel
theorem dX9_month_64 : decode cX9_month 64 = .ok (.getfield 17, 3) := by decide +kernel
theorem dX9_month_67 : decode cX9_month 67 = .ok (.iconst 0, 1) := by decide +kernel
theorem dX9_month_68 : decode cX9_month 68 = .ok (.iaload, 1) := by decide +kernel
theorem dX9_month_69 : decode cX9_month 69 = .ok (.ifCond .le 17, 3) := by decide +kernel
theorem dX9_month_72 : decode cX9_month 72 = .ok (.aload_n 0, 1) := by decide +kernel
theorem dX9_month_73 : decode cX9_month 73 = .ok (.lload 5, 2) := by decide +kernel
theorem dX9_month_75 : decode cX9_month 75 = .ok (.lload 5, 2) := by decide +kernel
theorem dX9_month_77 : decode cX9_month 77 = .ok (.lmul, 1) := by decide +kernel
theorem dX9_month_78 : decode cX9_month 78 = .ok (.ldc2_w 231, 3) := by decide +kernel
theorem dX9_month_81 : decode cX9_month 81 = .ok (.lrem, 1) := by decide +kernel
theorem dX9_month_82 : decode cX9_month 82 = .ok (.l2i, 1) := by decide +kernel
theorem dX9_month_83 : decode cX9_month 83 = .ok (.invokevirtual 233, 3) := by decide +kernel
theorem dX9_month_86 : decode cX9_month 86 = .ok (.aload_n 0, 1) := by decide +kernel
theorem dX9_month_87 : decode cX9_month 87 = .ok (.aload_n 0, 1) := by decide +kernel
theorem dX9_month_88 : decode cX9_month 88 = .ok (.getfield 44, 3) := by decide +kernel
theorem dX9_month_91 : decode cX9_month 91 = .ok (.invokevirtual 187, 3) := by decide +kernel
theorem dX9_month_94 : decode cX9_month 94 = .ok (.iinc 4 1, 3) := by decide +kernel
theorem dX9_month_97 : decode cX9_month 97 = .ok (.goto (-58), 3) := by decide +kernel
theorem dX9_month_100 : decode cX9_month 100 = .ok (.iload_n 3, 1) := by decide +kernel
theorem dX9_month_101 : decode cX9_month 101 = .ok (.ifCond .ne 22, 3) := by decide +kernel
theorem dX9_month_104 : decode cX9_month 104 = .ok (.aload_n 0, 1) := by decide +kernel
theorem dX9_month_105 : decode cX9_month 105 = .ok (.aload_n 0, 1) := by decide +kernel
theorem dX9_month_106 : decode cX9_month 106 = .ok (.getfield 44, 3) := by decide +kernel
theorem dX9_month_109 : decode cX9_month 109 = .ok (.aload_n 0, 1) := by decide +kernel
theorem dX9_month_110 : decode cX9_month 110 = .ok (.aload_n 0, 1) := by decide +kernel
theorem dX9_month_111 : decode cX9_month 111 = .ok (.getfield 44, 3) := by decide +kernel
theorem dX9_month_114 : decode cX9_month 114 = .ok (.invokevirtual 201, 3) := by decide +kernel
theorem dX9_month_117 : decode cX9_month 117 = .ok (.invokevirtual 157, 3) := by decide +kernel
theorem dX9_month_120 : decode cX9_month 120 = .ok (.goto 9, 3) := by decide +kernel
theorem dX9_month_123 : decode cX9_month 123 = .ok (.aload_n 0, 1) := by decide +kernel
theorem dX9_month_124 : decode cX9_month 124 = .ok (.getfield 44, 3) := by decide +kernel
theorem dX9_month_127 : decode cX9_month 127 = .ok (.iconst 1, 1) := by decide +kernel
theorem dX9_month_128 : decode cX9_month 128 = .ok (.iaload, 1) := by decide +kernel
theorem dX9_month_129 : decode cX9_month 129 = .ok (.ireturn, 1) := by decide +kernel
def f_M_month_86 (N nx : Nat) (rec39 : Dt → Int32 → Option (Int32 × Dt)) (D : Dt) (P : Ft) (a0 : Nat) (i1 : Int32) (i2 : Int32) (i3 : Int32) (i4 : Int32) : Option (Int32 × Dt) :=
  nn (P a0 16) fun q14 =>
  (f_M_passOn N nx D P a0 q14).bind fun z15 =>
  rec39 z15 (i4 + 1)
def f_M_month_39 (N nx : Nat) (P : Ft) (a0 : Nat) (i1 : Int32) (i2 : Int32) (i3 : Int32) (rec39 : Dt → Int32 → Option (Int32 × Dt)) (D : Dt) (i4 : Int32) : Option (Int32 × Dt) :=
  if i2 ≤ i4 then
    if i3 = 0 then
      nn (P a0 16) fun q7 =>
      (f_M_borne N nx D P a0 q7).bind fun z8 =>
      (f_M_sizeOf N nx D P a0 q7 z8).bind fun z9 =>
      some (z9, D)
    else
      nn (P a0 16) fun q5 =>
      if ab nx q5 3 1 = true then
      some (D q5 (1 : Int32).toNatClampNeg, D)
      else none
  else
    pas (((7919 * (Int32.toInt64 i1)) + (6151 * (Int32.toInt64 i4))) + 1) fun v11 =>
    nn (P a0 3) fun q12 =>
    if ab nx q12 3 0 = true then
    if D q12 (0 : Int32).toNatClampNeg ≤ 0 then
      f_M_month_86 N nx rec39 D P a0 i1 i2 i3 i4
    else
      (f_M_turn N nx D P a0 (Int64.toInt32 ((v11 * v11) - (v11 * v11) / 65521 * 65521))).bind fun z17 =>
      f_M_month_86 N nx rec39 z17 P a0 i1 i2 i3 i4
    else none
def f_M_month (N nx : Nat) (D : Dt) (P : Ft) (a0 : Nat) (i1 : Int32) (i2 : Int32) (i3 : Int32) : Option (Int32 × Dt) :=
  if kd nx a0 = 9 then
  (f_M_in N nx D P i1 0 9999).bind fun z1 =>
  if z1 = 0 then
    some ((-1), D)
  else
    (f_M_in N nx D P i2 1 60).bind fun z2 =>
    if z2 = 0 then
      some ((-1), D)
    else
      (f_M_in N nx D P i3 0 1).bind fun z3 =>
      if z3 = 0 then
        some ((-1), D)
      else
        (f_M_take N nx D P a0).bind fun z4 =>
        wk2 N (f_M_month_39 N nx P a0 i1 i2 i3) z4 0
  else none
theorem m_M_month : MV yX9_month cX9_month 7 (some .int) 3 := ⟨mT 1207 (by decide +kernel) rfl, mT 1205 (by decide +kernel) rfl, mT 1206 (by decide +kernel) rfl, mT 68 (by decide +kernel) rfl, by decide +kernel, by decide +kernel, by decide +kernel⟩
set_option maxHeartbeats 4000000 in
set_option maxRecDepth 100000 in
theorem c_M_month (l : Launch) (cx : Cx) (nx N : Nat) (D : Dt) (P : Ft) (a0 : Nat) (i1 : Int32) (i2 : Int32) (i3 : Int32) (z : Int32 × Dt) (h : f_M_month N nx D P a0 i1 i2 i3 = some z) : Ct l cx yX9_month cX9_month 7 (some .int) 4 [.ref (cx.2.2 + a0), .int i1, .int i2, .int i3] D P nx (some (.int z.1)) z.2 P := by
  refine x_met0 (by decide) (Nat.le_of_ble_eq_true rfl) ?_
  intro p e s m args below meth c X
  have X : XC p s m args meth c cx cX9_month 7 (some .int) "HeartPinsModel" "month" := X
  refine XW.sub (lv' := [(0, .ref (cx.2.2 + a0)), (1, .int i1), (2, .int i2), (3, .int i3)]) [0, 1, 2, 3] rfl ?_
  unfold f_M_month at h
  obtain ⟨hk0, h⟩ := grd h
  have hL39 : ∀ (n : Nat) (D : Dt) (i4 : Int32), wk2 n (f_M_month_39 N nx P a0 i1 i2 i3) D i4 = some z → XW p l e (rmk 4) s m args below meth c (MQ below (Qx cx (some (.int z.1)) z.2 P nx) args s 0 0 (AA cx)) cx 7 D P nx 0 0 39 [(0, .ref (cx.2.2 + a0)), (1, .int i1), (2, .int i2), (3, .int i3), (4, .int i4)] [] := by
    intro n
    induction n with
    | zero => intro D i4 h; exact (nonz h).elim
    | succ n ih39 =>
      intro D i4 h
      have h : f_M_month_39 N nx P a0 i1 i2 i3 (wk2 n (f_M_month_39 N nx P a0 i1 i2 i3)) D i4 = some z := h
      generalize wk2 n (f_M_month_39 N nx P a0 i1 i2 i3) = rec39 at ih39 h
      unfold f_M_month_39 at h
      have hJ86 : ∀ (D : Dt) (i4 : Int32), f_M_month_86 N nx rec39 D P a0 i1 i2 i3 i4 = some z → XW p l e (rmk 4) s m args below meth c (MQ below (Qx cx (some (.int z.1)) z.2 P nx) args s 0 0 (AA cx)) cx 7 D P nx 0 0 86 [(0, .ref (cx.2.2 + a0)), (1, .int i1), (2, .int i2), (3, .int i3), (4, .int i4)] [] := by
        intro D i4 h
        unfold f_M_month_86 at h
        refine x_aload_n (pc := 86) X dX9_month_86 (i := 0) rfl 0 rfl ?_
        refine x_aload_n (pc := 87) X dX9_month_87 (i := 0) rfl 0 rfl ?_
        obtain ⟨q14, e14, h⟩ := nns h
        refine x_getr (ci := 9) (k := 16) (n := 26) (C := RX9) (T := TX9) (pc := 88) X dX9_month_88 hk0 rfl (by decide) w_905 rfl e14 ?_
        obtain ⟨z15, e15, h⟩ := bnds h
        refine x_callV (pc := 91) (As := [.ref (cx.2.2 + q14)]) (st := []) (st' := []) X (c_M_passOn l cx nx N D P _ _ z15 e15) dX9_month_91 w_1093 m_M_passOn rfl hk0 (ci := 9) rfl rfl ⟨by decide, by decide⟩ ⟨Nat.zero_le _, Nat.zero_le _⟩ rfl (Nat.le_of_ble_eq_true rfl) rfl ?_
        refine x_iinc (v := i4 + 1) (lv' := [(4, .int (i4 + 1)), (0, .ref (cx.2.2 + a0)), (1, .int i1), (2, .int i2), (3, .int i3)]) (pc := 94) X dX9_month_94 4 rfl rfl (by decide) rfl ?_
        refine x_goto (tgt := 39) (pc := 97) X dX9_month_97 (by decide) ?_
        exact XW.sub [1, 2, 3, 4, 0] rfl (ih39 _ _ h)
      refine x_iload (pc := 39) X dX9_month_39 4 rfl ?_
      refine x_iload_n (pc := 41) X dX9_month_41 (i := 2) rfl 2 rfl ?_
      refine x_icmp_ge (tgt := 100) (pc := 42) X dX9_month_42 (by decide) (fun c19 => ?_) (fun c19 => ?_)
      · have h := ite_t c19 h
        refine x_iload_n (pc := 100) X dX9_month_100 (i := 3) rfl 3 rfl ?_
        refine x_if_ne (tgt := 123) (pc := 101) X dX9_month_101 (by decide) (fun c10 => ?_) (fun c10 => ?_)
        · have h := ite_f c10 h
          refine x_aload_n (pc := 123) X dX9_month_123 (i := 0) rfl 0 rfl ?_
          obtain ⟨q5, e5, h⟩ := nns h
          refine x_getr (ci := 9) (k := 16) (n := 26) (C := RX9) (T := TX9) (pc := 124) X dX9_month_124 hk0 rfl (by decide) w_905 rfl e5 ?_
          refine x_iconst (v := 1) (pc := 127) X dX9_month_127 (by decide) ?_
          obtain ⟨g6, h⟩ := grd h
          refine x_iald (pc := 128) X dX9_month_128 g6 ?_
          obtain rfl := Option.some.inj h
          exact x_iret (pc := 129) X dX9_month_129
        · have h := ite_t c10 h
          refine x_aload_n (pc := 104) X dX9_month_104 (i := 0) rfl 0 rfl ?_
          refine x_aload_n (pc := 105) X dX9_month_105 (i := 0) rfl 0 rfl ?_
          obtain ⟨q7, e7, h⟩ := nns h
          refine x_getr (ci := 9) (k := 16) (n := 26) (C := RX9) (T := TX9) (pc := 106) X dX9_month_106 hk0 rfl (by decide) w_905 rfl e7 ?_
          refine x_aload_n (pc := 109) X dX9_month_109 (i := 0) rfl 0 rfl ?_
          refine x_aload_n (pc := 110) X dX9_month_110 (i := 0) rfl 0 rfl ?_
          refine x_getr (ci := 9) (k := 16) (n := 26) (C := RX9) (T := TX9) (pc := 111) X dX9_month_111 hk0 rfl (by decide) w_905 rfl e7 ?_
          obtain ⟨z8, e8, h⟩ := bnds h
          refine x_callV (pc := 114) (As := [.ref (cx.2.2 + q7)]) (st := [.ref (cx.2.2 + q7), .ref (cx.2.2 + a0)]) (st' := [.int z8, .ref (cx.2.2 + q7), .ref (cx.2.2 + a0)]) X (c_M_borne l cx nx N D P _ _ z8 e8) dX9_month_114 w_1132 m_M_borne rfl hk0 (ci := 9) rfl rfl ⟨by decide, by decide⟩ ⟨Nat.zero_le _, Nat.zero_le _⟩ rfl (Nat.le_of_ble_eq_true rfl) rfl ?_
          obtain ⟨z9, e9, h⟩ := bnds h
          refine x_callV (pc := 117) (As := [.ref (cx.2.2 + q7), .int z8]) (st := []) (st' := [.int z9]) X (c_M_sizeOf l cx nx N D P _ _ _ z9 e9) dX9_month_117 w_1039 m_M_sizeOf rfl hk0 (ci := 9) rfl rfl ⟨by decide, by decide⟩ ⟨Nat.zero_le _, Nat.zero_le _⟩ rfl (Nat.le_of_ble_eq_true rfl) rfl ?_
          refine x_goto (tgt := 129) (pc := 120) X dX9_month_120 (by decide) ?_
          obtain rfl := Option.some.inj h
          exact x_iret (pc := 129) X dX9_month_129
      · have h := ite_f c19 h
        refine x_ldc2 (v := 7919) (pc := 45) X dX9_month_45 w_1208 ?_
        refine x_iload_n (pc := 48) X dX9_month_48 (i := 1) rfl 1 rfl ?_
        refine x_i2l (pc := 49) X dX9_month_49 ?_
        refine x_lmul (pc := 50) X dX9_month_50 ?_
        refine x_ldc2 (v := 6151) (pc := 51) X dX9_month_51 w_1209 ?_
        refine x_iload (pc := 54) X dX9_month_54 4 rfl ?_
        refine x_i2l (pc := 56) X dX9_month_56 ?_
        refine x_lmul (pc := 57) X dX9_month_57 ?_
        refine x_ladd (pc := 58) X dX9_month_58 ?_
        refine x_lconst (v := 1) (pc := 59) X dX9_month_59 (by decide) ?_
        refine x_ladd (pc := 60) X dX9_month_60 ?_
        obtain ⟨v11, w11, h⟩ := pass h
        refine x_nmL w11 ?_
        refine x_lstore (lv' := [(5, .long v11), (0, .ref (cx.2.2 + a0)), (1, .int i1), (2, .int i2), (3, .int i3), (4, .int i4)]) (pc := 61) X dX9_month_61 (by decide) rfl ?_
        refine x_aload_n (pc := 63) X dX9_month_63 (i := 0) rfl 1 rfl ?_
        obtain ⟨q12, e12, h⟩ := nns h
        refine x_getr (ci := 9) (k := 3) (n := 26) (C := RX9) (T := TX9) (pc := 64) X dX9_month_64 hk0 rfl (by decide) w_892 rfl e12 ?_
        refine x_iconst (v := 0) (pc := 67) X dX9_month_67 (by decide) ?_
        obtain ⟨g13, h⟩ := grd h
        refine x_iald (pc := 68) X dX9_month_68 g13 ?_
        refine x_if_le (tgt := 86) (pc := 69) X dX9_month_69 (by decide) (fun c18 => ?_) (fun c18 => ?_)
        · have h := ite_t c18 h
          exact XW.sub [1, 2, 3, 4, 5] rfl (hJ86 _ _ h)
        · have h := ite_f c18 h
          refine x_aload_n (pc := 72) X dX9_month_72 (i := 0) rfl 1 rfl ?_
          refine x_lload (pc := 73) X dX9_month_73 0 rfl ?_
          refine x_lload (pc := 75) X dX9_month_75 0 rfl ?_
          refine x_lmul (pc := 77) X dX9_month_77 ?_
          refine x_ldc2 (v := 65521) (pc := 78) X dX9_month_78 w_1210 ?_
          refine x_lrem (pc := 81) X dX9_month_81 (by decide) ?_
          refine x_l2i (pc := 82) X dX9_month_82 ?_
          obtain ⟨z17, e17, h⟩ := bnds h
          refine x_callV (pc := 83) (As := [.int (Int64.toInt32 ((v11 * v11) - (v11 * v11) / 65521 * 65521))]) (st := []) (st' := []) X (c_M_turn l cx nx N D P _ _ z17 e17) dX9_month_83 w_1211 m_M_turn rfl hk0 (ci := 9) rfl rfl ⟨by decide, by decide⟩ ⟨Nat.zero_le _, Nat.zero_le _⟩ rfl (Nat.le_of_ble_eq_true rfl) rfl ?_
          exact XW.sub [1, 2, 3, 4, 5] rfl (hJ86 _ _ h)
  refine x_iload_n (pc := 0) X dX9_month_0 (i := 1) rfl 1 rfl ?_
  refine x_iconst (v := 0) (pc := 1) X dX9_month_1 (by decide) ?_
  refine x_sipush (v := 9999) (pc := 2) X dX9_month_2 (by decide) ?_
  obtain ⟨z1, e1, h⟩ := bnds h
  refine x_callS (pc := 5) (As := [.int i1, .int 0, .int 9999]) (st := []) (st' := [.int z1]) X (c_M_in l cx nx N D P _ _ _ z1 e1) dX9_month_5 w_972 m_M_in rfl ⟨by decide, by decide⟩ ⟨Nat.zero_le _, Nat.zero_le _⟩ rfl (Nat.le_of_ble_eq_true rfl) rfl ?_
  refine x_if_eq (tgt := 30) (pc := 8) X dX9_month_8 (by decide) (fun c22 => ?_) (fun c22 => ?_)
  · have h := ite_t c22 h
    refine x_iconst (v := (-1)) (pc := 30) X dX9_month_30 (by decide) ?_
    obtain rfl := Option.some.inj h
    exact x_iret (pc := 31) X dX9_month_31
  · have h := ite_f c22 h
    refine x_iload_n (pc := 11) X dX9_month_11 (i := 2) rfl 2 rfl ?_
    refine x_iconst (v := 1) (pc := 12) X dX9_month_12 (by decide) ?_
    refine x_bipush (v := 60) (pc := 13) X dX9_month_13 (by decide) ?_
    obtain ⟨z2, e2, h⟩ := bnds h
    refine x_callS (pc := 15) (As := [.int i2, .int 1, .int 60]) (st := []) (st' := [.int z2]) X (c_M_in l cx nx N D P _ _ _ z2 e2) dX9_month_15 w_972 m_M_in rfl ⟨by decide, by decide⟩ ⟨Nat.zero_le _, Nat.zero_le _⟩ rfl (Nat.le_of_ble_eq_true rfl) rfl ?_
    refine x_if_eq (tgt := 30) (pc := 18) X dX9_month_18 (by decide) (fun c21 => ?_) (fun c21 => ?_)
    · have h := ite_t c21 h
      refine x_iconst (v := (-1)) (pc := 30) X dX9_month_30 (by decide) ?_
      obtain rfl := Option.some.inj h
      exact x_iret (pc := 31) X dX9_month_31
    · have h := ite_f c21 h
      refine x_iload_n (pc := 21) X dX9_month_21 (i := 3) rfl 3 rfl ?_
      refine x_iconst (v := 0) (pc := 22) X dX9_month_22 (by decide) ?_
      refine x_iconst (v := 1) (pc := 23) X dX9_month_23 (by decide) ?_
      obtain ⟨z3, e3, h⟩ := bnds h
      refine x_callS (pc := 24) (As := [.int i3, .int 0, .int 1]) (st := []) (st' := [.int z3]) X (c_M_in l cx nx N D P _ _ _ z3 e3) dX9_month_24 w_972 m_M_in rfl ⟨by decide, by decide⟩ ⟨Nat.zero_le _, Nat.zero_le _⟩ rfl (Nat.le_of_ble_eq_true rfl) rfl ?_
      refine x_if_ne (tgt := 32) (pc := 27) X dX9_month_27 (by decide) (fun c20 => ?_) (fun c20 => ?_)
      · have h := ite_f c20 h
        refine x_aload_n (pc := 32) X dX9_month_32 (i := 0) rfl 0 rfl ?_
        obtain ⟨z4, e4, h⟩ := bnds h
        refine x_callV (pc := 33) (As := []) (st := []) (st' := []) X (c_M_take l cx nx N D P _ z4 e4) dX9_month_33 w_1112 m_M_take rfl hk0 (ci := 9) rfl rfl ⟨by decide, by decide⟩ ⟨Nat.zero_le _, Nat.zero_le _⟩ rfl (Nat.le_of_ble_eq_true rfl) rfl ?_
        refine x_iconst (v := 0) (pc := 36) X dX9_month_36 (by decide) ?_
        refine x_istore (lv' := [(4, .int 0), (0, .ref (cx.2.2 + a0)), (1, .int i1), (2, .int i2), (3, .int i3)]) (pc := 37) X dX9_month_37 (by decide) rfl ?_
        exact XW.sub [1, 2, 3, 4, 0] rfl (hL39 _ _ _ h)
      · have h := ite_t c20 h
        refine x_iconst (v := (-1)) (pc := 30) X dX9_month_30 (by decide) ?_
        obtain rfl := Option.some.inj h
        exact x_iret (pc := 31) X dX9_month_31
theorem dX9_keep_0 : decode cX9_keep 0 = .ok (.aload_n 0, 1) := by decide +kernel
theorem dX9_keep_1 : decode cX9_keep 1 = .ok (.getfield 136, 3) := by decide +kernel
theorem dX9_keep_4 : decode cX9_keep 4 = .ok (.iconst 2, 1) := by decide +kernel
theorem dX9_keep_5 : decode cX9_keep 5 = .ok (.if_icmp .ne 6, 3) := by decide +kernel
theorem dX9_keep_8 : decode cX9_keep 8 = .ok (.bipush (-3), 2) := by decide +kernel
theorem dX9_keep_10 : decode cX9_keep 10 = .ok (.ireturn, 1) := by decide +kernel
theorem dX9_keep_11 : decode cX9_keep 11 = .ok (.iconst 0, 1) := by decide +kernel
theorem dX9_keep_12 : decode cX9_keep 12 = .ok (.istore_n 1, 1) := by decide +kernel
theorem dX9_keep_13 : decode cX9_keep 13 = .ok (.iload_n 1, 1) := by decide +kernel
theorem dX9_keep_14 : decode cX9_keep 14 = .ok (.bipush 18, 2) := by decide +kernel
theorem dX9_keep_16 : decode cX9_keep 16 = .ok (.if_icmp .ge 29, 3) := by decide +kernel
theorem dX9_keep_19 : decode cX9_keep 19 = .ok (.aload_n 0, 1) := by decide +kernel
theorem dX9_keep_20 : decode cX9_keep 20 = .ok (.getfield 41, 3) := by decide +kernel
theorem dX9_keep_23 : decode cX9_keep 23 = .ok (.bipush 18, 2) := by decide +kernel
theorem dX9_keep_25 : decode cX9_keep 25 = .ok (.aload_n 0, 1) := by decide +kernel
theorem dX9_keep_26 : decode cX9_keep 26 = .ok (.getfield 136, 3) := by decide +kernel
theorem dX9_keep_29 : decode cX9_keep 29 = .ok (.imul, 1) := by decide +kernel
theorem dX9_keep_30 : decode cX9_keep 30 = .ok (.iload_n 1, 1) := by decide +kernel
theorem dX9_keep_31 : decode cX9_keep 31 = .ok (.iadd, 1) := by decide +kernel
theorem dX9_keep_32 : decode cX9_keep 32 = .ok (.aload_n 0, 1) := by decide +kernel
theorem dX9_keep_33 : decode cX9_keep 33 = .ok (.getfield 35, 3) := by decide +kernel
theorem dX9_keep_36 : decode cX9_keep 36 = .ok (.iload_n 1, 1) := by decide +kernel
theorem dX9_keep_37 : decode cX9_keep 37 = .ok (.iaload, 1) := by decide +kernel
theorem dX9_keep_38 : decode cX9_keep 38 = .ok (.iastore, 1) := by decide +kernel
theorem dX9_keep_39 : decode cX9_keep 39 = .ok (.iinc 1 1, 3) := by decide +kernel
theorem dX9_keep_42 : decode cX9_keep 42 = .ok (.goto (-29), 3) := by decide +kernel
theorem dX9_keep_45 : decode cX9_keep 45 = .ok (.aload_n 0, 1) := by decide +kernel
theorem dX9_keep_46 : decode cX9_keep 46 = .ok (.dup, 1) := by decide +kernel
theorem dX9_keep_47 : decode cX9_keep 47 = .ok (.getfield 136, 3) := by decide +kernel
theorem dX9_keep_50 : decode cX9_keep 50 = .ok (.iconst 1, 1) := by decide +kernel
theorem dX9_keep_51 : decode cX9_keep 51 = .ok (.iadd, 1) := by decide +kernel
theorem dX9_keep_52 : decode cX9_keep 52 = .ok (.putfield 136, 3) := by decide +kernel
theorem dX9_keep_55 : decode cX9_keep 55 = .ok (.aload_n 0, 1) := by decide +kernel
theorem dX9_keep_56 : decode cX9_keep 56 = .ok (.getfield 136, 3) := by decide +kernel
theorem dX9_keep_59 : decode cX9_keep 59 = .ok (.ireturn, 1) := by decide +kernel
def f_M_keep_13 (N nx : Nat) (P : Ft) (a0 : Nat) (rec13 : Dt → Int32 → Option (Int32 × Dt)) (D : Dt) (i1 : Int32) : Option (Int32 × Dt) :=
  if 18 ≤ i1 then
    pas (upd2 D a0 15 ((D a0 15) + 1)) fun D1 =>
    some (D1 a0 15, D1)
  else
    nn (P a0 14) fun q2 =>
    nn (P a0 11) fun q3 =>
    if ab nx q3 3 i1 = true then
    if ab nx q2 3 ((18 * (D a0 15)) + i1) = true then
    pas (upd2 D q2 ((18 * (D a0 15)) + i1).toNatClampNeg (D q3 i1.toNatClampNeg)) fun D5 =>
    rec13 D5 (i1 + 1)
    else none
    else none
def f_M_keep (N nx : Nat) (D : Dt) (P : Ft) (a0 : Nat) : Option (Int32 × Dt) :=
  if kd nx a0 = 9 then
  if D a0 15 = 2 then
    some ((-3), D)
  else
    wk2 N (f_M_keep_13 N nx P a0) D 0
  else none
theorem m_M_keep : MV yX9_keep cX9_keep 2 (some .int) 0 := ⟨mT 1218 (by decide +kernel) rfl, mT 1216 (by decide +kernel) rfl, mT 1217 (by decide +kernel) rfl, mT 68 (by decide +kernel) rfl, by decide +kernel, by decide +kernel, by decide +kernel⟩
set_option maxHeartbeats 4000000 in
set_option maxRecDepth 100000 in
theorem c_M_keep (l : Launch) (cx : Cx) (nx N : Nat) (D : Dt) (P : Ft) (a0 : Nat) (z : Int32 × Dt) (h : f_M_keep N nx D P a0 = some z) : Ct l cx yX9_keep cX9_keep 2 (some .int) 0 [.ref (cx.2.2 + a0)] D P nx (some (.int z.1)) z.2 P := by
  refine x_met0 (by decide) (Nat.le_of_ble_eq_true rfl) ?_
  intro p e s m args below meth c X
  have X : XC p s m args meth c cx cX9_keep 2 (some .int) "HeartPinsModel" "keep" := X
  refine XW.sub (lv' := [(0, .ref (cx.2.2 + a0))]) [0] rfl ?_
  unfold f_M_keep at h
  obtain ⟨hk0, h⟩ := grd h
  have hL13 : ∀ (n : Nat) (D : Dt) (i1 : Int32), wk2 n (f_M_keep_13 N nx P a0) D i1 = some z → XW p l e (rmk 0) s m args below meth c (MQ below (Qx cx (some (.int z.1)) z.2 P nx) args s 0 0 (AA cx)) cx 2 D P nx 0 0 13 [(0, .ref (cx.2.2 + a0)), (1, .int i1)] [] := by
    intro n
    induction n with
    | zero => intro D i1 h; exact (nonz h).elim
    | succ n ih13 =>
      intro D i1 h
      have h : f_M_keep_13 N nx P a0 (wk2 n (f_M_keep_13 N nx P a0)) D i1 = some z := h
      generalize wk2 n (f_M_keep_13 N nx P a0) = rec13 at ih13 h
      unfold f_M_keep_13 at h
      refine x_iload_n (pc := 13) X dX9_keep_13 (i := 1) rfl 1 rfl ?_
      refine x_bipush (v := 18) (pc := 14) X dX9_keep_14 (by decide) ?_
      refine x_icmp_ge (tgt := 45) (pc := 16) X dX9_keep_16 (by decide) (fun c6 => ?_) (fun c6 => ?_)
      · have h := ite_t c6 h
        refine x_aload_n (pc := 45) X dX9_keep_45 (i := 0) rfl 0 rfl ?_
        refine x_dup (pc := 46) X dX9_keep_46 rfl ?_
        refine x_geti (ci := 9) (k := 15) (n := 26) (C := RX9) (T := TX9) (pc := 47) X dX9_keep_47 hk0 rfl (by decide) w_904 rfl ?_
        refine x_iconst (v := 1) (pc := 50) X dX9_keep_50 (by decide) ?_
        refine x_iadd (pc := 51) X dX9_keep_51 ?_
        obtain ⟨D1, w1, h⟩ := pass h
        refine x_puti (ci := 9) (k := 15) (n := 26) (C := RX9) (T := TX9) (D' := D1) (pc := 52) X dX9_keep_52 hk0 rfl (by decide) w_904 rfl (by decide +kernel) rfl w1 ?_
        refine x_aload_n (pc := 55) X dX9_keep_55 (i := 0) rfl 0 rfl ?_
        refine x_geti (ci := 9) (k := 15) (n := 26) (C := RX9) (T := TX9) (pc := 56) X dX9_keep_56 hk0 rfl (by decide) w_904 rfl ?_
        obtain rfl := Option.some.inj h
        exact x_iret (pc := 59) X dX9_keep_59
      · have h := ite_f c6 h
        refine x_aload_n (pc := 19) X dX9_keep_19 (i := 0) rfl 0 rfl ?_
        obtain ⟨q2, e2, h⟩ := nns h
        refine x_getr (ci := 9) (k := 14) (n := 26) (C := RX9) (T := TX9) (pc := 20) X dX9_keep_20 hk0 rfl (by decide) w_903 rfl e2 ?_
        refine x_bipush (v := 18) (pc := 23) X dX9_keep_23 (by decide) ?_
        refine x_aload_n (pc := 25) X dX9_keep_25 (i := 0) rfl 0 rfl ?_
        refine x_geti (ci := 9) (k := 15) (n := 26) (C := RX9) (T := TX9) (pc := 26) X dX9_keep_26 hk0 rfl (by decide) w_904 rfl ?_
        refine x_imul (pc := 29) X dX9_keep_29 ?_
        refine x_iload_n (pc := 30) X dX9_keep_30 (i := 1) rfl 1 rfl ?_
        refine x_iadd (pc := 31) X dX9_keep_31 ?_
        refine x_aload_n (pc := 32) X dX9_keep_32 (i := 0) rfl 0 rfl ?_
        obtain ⟨q3, e3, h⟩ := nns h
        refine x_getr (ci := 9) (k := 11) (n := 26) (C := RX9) (T := TX9) (pc := 33) X dX9_keep_33 hk0 rfl (by decide) w_900 rfl e3 ?_
        refine x_iload_n (pc := 36) X dX9_keep_36 (i := 1) rfl 1 rfl ?_
        obtain ⟨g4, h⟩ := grd h
        refine x_iald (pc := 37) X dX9_keep_37 g4 ?_
        obtain ⟨g5, h⟩ := grd h
        obtain ⟨D5, w5, h⟩ := pass h
        refine x_iast (D' := D5) (pc := 38) X dX9_keep_38 g5 w5 ?_
        refine x_iinc (v := i1 + 1) (lv' := [(1, .int (i1 + 1)), (0, .ref (cx.2.2 + a0))]) (pc := 39) X dX9_keep_39 1 rfl rfl (by decide) rfl ?_
        refine x_goto (tgt := 13) (pc := 42) X dX9_keep_42 (by decide) ?_
        exact XW.sub [1, 0] rfl (ih13 _ _ h)
  refine x_aload_n (pc := 0) X dX9_keep_0 (i := 0) rfl 0 rfl ?_
  refine x_geti (ci := 9) (k := 15) (n := 26) (C := RX9) (T := TX9) (pc := 1) X dX9_keep_1 hk0 rfl (by decide) w_904 rfl ?_
  refine x_iconst (v := 2) (pc := 4) X dX9_keep_4 (by decide) ?_
  refine x_icmp_ne (tgt := 11) (pc := 5) X dX9_keep_5 (by decide) (fun c7 => ?_) (fun c7 => ?_)
  · have h := ite_f c7 h
    refine x_iconst (v := 0) (pc := 11) X dX9_keep_11 (by decide) ?_
    refine x_istore_n (lv' := [(1, .int 0), (0, .ref (cx.2.2 + a0))]) (pc := 12) X dX9_keep_12 (i := 1) rfl (by decide) rfl ?_
    exact XW.sub [1, 0] rfl (hL13 _ _ _ h)
  · have h := ite_t c7 h
    refine x_bipush (v := (-3)) (pc := 8) X dX9_keep_8 (by decide) ?_
    obtain rfl := Option.some.inj h
    exact x_iret (pc := 10) X dX9_keep_10
theorem dX9_back_0 : decode cX9_back 0 = .ok (.aload_n 0, 1) := by decide +kernel
theorem dX9_back_1 : decode cX9_back 1 = .ok (.getfield 136, 3) := by decide +kernel
theorem dX9_back_4 : decode cX9_back 4 = .ok (.ifCond .ne 6, 3) := by decide +kernel
theorem dX9_back_7 : decode cX9_back 7 = .ok (.bipush (-2), 2) := by decide +kernel
theorem dX9_back_9 : decode cX9_back 9 = .ok (.ireturn, 1) := by decide +kernel
theorem dX9_back_10 : decode cX9_back 10 = .ok (.aload_n 0, 1) := by decide +kernel
theorem dX9_back_11 : decode cX9_back 11 = .ok (.dup, 1) := by decide +kernel
theorem dX9_back_12 : decode cX9_back 12 = .ok (.getfield 136, 3) := by decide +kernel
theorem dX9_back_15 : decode cX9_back 15 = .ok (.iconst 1, 1) := by decide +kernel
theorem dX9_back_16 : decode cX9_back 16 = .ok (.isub, 1) := by decide +kernel
theorem dX9_back_17 : decode cX9_back 17 = .ok (.putfield 136, 3) := by decide +kernel
theorem dX9_back_20 : decode cX9_back 20 = .ok (.iconst 0, 1) := by decide +kernel
theorem dX9_back_21 : decode cX9_back 21 = .ok (.istore_n 1, 1) := by decide +kernel
theorem dX9_back_22 : decode cX9_back 22 = .ok (.iload_n 1, 1) := by decide +kernel
theorem dX9_back_23 : decode cX9_back 23 = .ok (.bipush 18, 2) := by decide +kernel
theorem dX9_back_25 : decode cX9_back 25 = .ok (.if_icmp .ge 29, 3) := by decide +kernel
theorem dX9_back_28 : decode cX9_back 28 = .ok (.aload_n 0, 1) := by decide +kernel
theorem dX9_back_29 : decode cX9_back 29 = .ok (.getfield 35, 3) := by decide +kernel
theorem dX9_back_32 : decode cX9_back 32 = .ok (.iload_n 1, 1) := by decide +kernel
theorem dX9_back_33 : decode cX9_back 33 = .ok (.aload_n 0, 1) := by decide +kernel
theorem dX9_back_34 : decode cX9_back 34 = .ok (.getfield 41, 3) := by decide +kernel
theorem dX9_back_37 : decode cX9_back 37 = .ok (.bipush 18, 2) := by decide +kernel
theorem dX9_back_39 : decode cX9_back 39 = .ok (.aload_n 0, 1) := by decide +kernel
theorem dX9_back_40 : decode cX9_back 40 = .ok (.getfield 136, 3) := by decide +kernel
theorem dX9_back_43 : decode cX9_back 43 = .ok (.imul, 1) := by decide +kernel
theorem dX9_back_44 : decode cX9_back 44 = .ok (.iload_n 1, 1) := by decide +kernel
theorem dX9_back_45 : decode cX9_back 45 = .ok (.iadd, 1) := by decide +kernel
theorem dX9_back_46 : decode cX9_back 46 = .ok (.iaload, 1) := by decide +kernel
theorem dX9_back_47 : decode cX9_back 47 = .ok (.iastore, 1) := by decide +kernel
theorem dX9_back_48 : decode cX9_back 48 = .ok (.iinc 1 1, 3) := by decide +kernel
theorem dX9_back_51 : decode cX9_back 51 = .ok (.goto (-29), 3) := by decide +kernel
theorem dX9_back_54 : decode cX9_back 54 = .ok (.aload_n 0, 1) := by decide +kernel
theorem dX9_back_55 : decode cX9_back 55 = .ok (.iconst 0, 1) := by decide +kernel
theorem dX9_back_56 : decode cX9_back 56 = .ok (.putfield 133, 3) := by decide +kernel
theorem dX9_back_59 : decode cX9_back 59 = .ok (.aload_n 0, 1) := by decide +kernel
theorem dX9_back_60 : decode cX9_back 60 = .ok (.getfield 136, 3) := by decide +kernel
theorem dX9_back_63 : decode cX9_back 63 = .ok (.ireturn, 1) := by decide +kernel
def f_M_back_22 (N nx : Nat) (P : Ft) (a0 : Nat) (rec22 : Dt → Int32 → Option (Int32 × Dt)) (D : Dt) (i1 : Int32) : Option (Int32 × Dt) :=
  if 18 ≤ i1 then
    pas (upd2 D a0 13 0) fun D2 =>
    some (D2 a0 15, D2)
  else
    nn (P a0 11) fun q3 =>
    nn (P a0 14) fun q4 =>
    if ab nx q4 3 ((18 * (D a0 15)) + i1) = true then
    if ab nx q3 3 i1 = true then
    pas (upd2 D q3 i1.toNatClampNeg (D q4 ((18 * (D a0 15)) + i1).toNatClampNeg)) fun D6 =>
    rec22 D6 (i1 + 1)
    else none
    else none
def f_M_back (N nx : Nat) (D : Dt) (P : Ft) (a0 : Nat) : Option (Int32 × Dt) :=
  if kd nx a0 = 9 then
  if D a0 15 = 0 then
    some ((-2), D)
  else
    pas (upd2 D a0 15 ((D a0 15) - 1)) fun D1 =>
    wk2 N (f_M_back_22 N nx P a0) D1 0
  else none
theorem m_M_back : MV yX9_back cX9_back 2 (some .int) 0 := ⟨mT 1222 (by decide +kernel) rfl, mT 1220 (by decide +kernel) rfl, mT 1221 (by decide +kernel) rfl, mT 68 (by decide +kernel) rfl, by decide +kernel, by decide +kernel, by decide +kernel⟩
set_option maxHeartbeats 4000000 in
set_option maxRecDepth 100000 in
theorem c_M_back (l : Launch) (cx : Cx) (nx N : Nat) (D : Dt) (P : Ft) (a0 : Nat) (z : Int32 × Dt) (h : f_M_back N nx D P a0 = some z) : Ct l cx yX9_back cX9_back 2 (some .int) 0 [.ref (cx.2.2 + a0)] D P nx (some (.int z.1)) z.2 P := by
  refine x_met0 (by decide) (Nat.le_of_ble_eq_true rfl) ?_
  intro p e s m args below meth c X
  have X : XC p s m args meth c cx cX9_back 2 (some .int) "HeartPinsModel" "back" := X
  refine XW.sub (lv' := [(0, .ref (cx.2.2 + a0))]) [0] rfl ?_
  unfold f_M_back at h
  obtain ⟨hk0, h⟩ := grd h
  have hL22 : ∀ (n : Nat) (D : Dt) (i1 : Int32), wk2 n (f_M_back_22 N nx P a0) D i1 = some z → XW p l e (rmk 0) s m args below meth c (MQ below (Qx cx (some (.int z.1)) z.2 P nx) args s 0 0 (AA cx)) cx 2 D P nx 0 0 22 [(0, .ref (cx.2.2 + a0)), (1, .int i1)] [] := by
    intro n
    induction n with
    | zero => intro D i1 h; exact (nonz h).elim
    | succ n ih22 =>
      intro D i1 h
      have h : f_M_back_22 N nx P a0 (wk2 n (f_M_back_22 N nx P a0)) D i1 = some z := h
      generalize wk2 n (f_M_back_22 N nx P a0) = rec22 at ih22 h
      unfold f_M_back_22 at h
      refine x_iload_n (pc := 22) X dX9_back_22 (i := 1) rfl 1 rfl ?_
      refine x_bipush (v := 18) (pc := 23) X dX9_back_23 (by decide) ?_
      refine x_icmp_ge (tgt := 54) (pc := 25) X dX9_back_25 (by decide) (fun c7 => ?_) (fun c7 => ?_)
      · have h := ite_t c7 h
        refine x_aload_n (pc := 54) X dX9_back_54 (i := 0) rfl 0 rfl ?_
        refine x_iconst (v := 0) (pc := 55) X dX9_back_55 (by decide) ?_
        obtain ⟨D2, w2, h⟩ := pass h
        refine x_puti (ci := 9) (k := 13) (n := 26) (C := RX9) (T := TX9) (D' := D2) (pc := 56) X dX9_back_56 hk0 rfl (by decide) w_902 rfl (by decide +kernel) rfl w2 ?_
        refine x_aload_n (pc := 59) X dX9_back_59 (i := 0) rfl 0 rfl ?_
        refine x_geti (ci := 9) (k := 15) (n := 26) (C := RX9) (T := TX9) (pc := 60) X dX9_back_60 hk0 rfl (by decide) w_904 rfl ?_
        obtain rfl := Option.some.inj h
        exact x_iret (pc := 63) X dX9_back_63
      · have h := ite_f c7 h
        refine x_aload_n (pc := 28) X dX9_back_28 (i := 0) rfl 0 rfl ?_
        obtain ⟨q3, e3, h⟩ := nns h
        refine x_getr (ci := 9) (k := 11) (n := 26) (C := RX9) (T := TX9) (pc := 29) X dX9_back_29 hk0 rfl (by decide) w_900 rfl e3 ?_
        refine x_iload_n (pc := 32) X dX9_back_32 (i := 1) rfl 1 rfl ?_
        refine x_aload_n (pc := 33) X dX9_back_33 (i := 0) rfl 0 rfl ?_
        obtain ⟨q4, e4, h⟩ := nns h
        refine x_getr (ci := 9) (k := 14) (n := 26) (C := RX9) (T := TX9) (pc := 34) X dX9_back_34 hk0 rfl (by decide) w_903 rfl e4 ?_
        refine x_bipush (v := 18) (pc := 37) X dX9_back_37 (by decide) ?_
        refine x_aload_n (pc := 39) X dX9_back_39 (i := 0) rfl 0 rfl ?_
        refine x_geti (ci := 9) (k := 15) (n := 26) (C := RX9) (T := TX9) (pc := 40) X dX9_back_40 hk0 rfl (by decide) w_904 rfl ?_
        refine x_imul (pc := 43) X dX9_back_43 ?_
        refine x_iload_n (pc := 44) X dX9_back_44 (i := 1) rfl 1 rfl ?_
        refine x_iadd (pc := 45) X dX9_back_45 ?_
        obtain ⟨g5, h⟩ := grd h
        refine x_iald (pc := 46) X dX9_back_46 g5 ?_
        obtain ⟨g6, h⟩ := grd h
        obtain ⟨D6, w6, h⟩ := pass h
        refine x_iast (D' := D6) (pc := 47) X dX9_back_47 g6 w6 ?_
        refine x_iinc (v := i1 + 1) (lv' := [(1, .int (i1 + 1)), (0, .ref (cx.2.2 + a0))]) (pc := 48) X dX9_back_48 1 rfl rfl (by decide) rfl ?_
        refine x_goto (tgt := 22) (pc := 51) X dX9_back_51 (by decide) ?_
        exact XW.sub [1, 0] rfl (ih22 _ _ h)
  refine x_aload_n (pc := 0) X dX9_back_0 (i := 0) rfl 0 rfl ?_
  refine x_geti (ci := 9) (k := 15) (n := 26) (C := RX9) (T := TX9) (pc := 1) X dX9_back_1 hk0 rfl (by decide) w_904 rfl ?_
  refine x_if_ne (tgt := 10) (pc := 4) X dX9_back_4 (by decide) (fun c8 => ?_) (fun c8 => ?_)
  · have h := ite_f c8 h
    refine x_aload_n (pc := 10) X dX9_back_10 (i := 0) rfl 0 rfl ?_
    refine x_dup (pc := 11) X dX9_back_11 rfl ?_
    refine x_geti (ci := 9) (k := 15) (n := 26) (C := RX9) (T := TX9) (pc := 12) X dX9_back_12 hk0 rfl (by decide) w_904 rfl ?_
    refine x_iconst (v := 1) (pc := 15) X dX9_back_15 (by decide) ?_
    refine x_isub (pc := 16) X dX9_back_16 ?_
    obtain ⟨D1, w1, h⟩ := pass h
    refine x_puti (ci := 9) (k := 15) (n := 26) (C := RX9) (T := TX9) (D' := D1) (pc := 17) X dX9_back_17 hk0 rfl (by decide) w_904 rfl (by decide +kernel) rfl w1 ?_
    refine x_iconst (v := 0) (pc := 20) X dX9_back_20 (by decide) ?_
    refine x_istore_n (lv' := [(1, .int 0), (0, .ref (cx.2.2 + a0))]) (pc := 21) X dX9_back_21 (i := 1) rfl (by decide) rfl ?_
    exact XW.sub [1, 0] rfl (hL22 _ _ _ h)
  · have h := ite_t c8 h
    refine x_bipush (v := (-2)) (pc := 7) X dX9_back_7 (by decide) ?_
    obtain rfl := Option.some.inj h
    exact x_iret (pc := 9) X dX9_back_9
theorem dX9_count_0 : decode cX9_count 0 = .ok (.iload_n 1, 1) := by decide +kernel
theorem dX9_count_1 : decode cX9_count 1 = .ok (.tableswitch 151 0 12 #[67, 74, 81, 88, 100, 100, 100, 117, 126, 131, 136, 141, 146], 67) := by decide +kernel
theorem dX9_count_68 : decode cX9_count 68 = .ok (.aload_n 0, 1) := by decide +kernel
theorem dX9_count_69 : decode cX9_count 69 = .ok (.getfield 13, 3) := by decide +kernel
theorem dX9_count_72 : decode cX9_count 72 = .ok (.iconst 0, 1) := by decide +kernel
theorem dX9_count_73 : decode cX9_count 73 = .ok (.iaload, 1) := by decide +kernel
theorem dX9_count_74 : decode cX9_count 74 = .ok (.ireturn, 1) := by decide +kernel
theorem dX9_count_75 : decode cX9_count 75 = .ok (.aload_n 0, 1) := by decide +kernel
theorem dX9_count_76 : decode cX9_count 76 = .ok (.getfield 17, 3) := by decide +kernel
theorem dX9_count_79 : decode cX9_count 79 = .ok (.iconst 0, 1) := by decide +kernel
theorem dX9_count_80 : decode cX9_count 80 = .ok (.iaload, 1) := by decide +kernel
theorem dX9_count_81 : decode cX9_count 81 = .ok (.ireturn, 1) := by decide +kernel
theorem dX9_count_82 : decode cX9_count 82 = .ok (.aload_n 0, 1) := by decide +kernel
theorem dX9_count_83 : decode cX9_count 83 = .ok (.getfield 35, 3) := by decide +kernel
theorem dX9_count_86 : decode cX9_count 86 = .ok (.iconst 0, 1) := by decide +kernel
theorem dX9_count_87 : decode cX9_count 87 = .ok (.iaload, 1) := by decide +kernel
theorem dX9_count_88 : decode cX9_count 88 = .ok (.ireturn, 1) := by decide +kernel
theorem dX9_count_89 : decode cX9_count 89 = .ok (.aload_n 0, 1) := by decide +kernel
theorem dX9_count_90 : decode cX9_count 90 = .ok (.aload_n 0, 1) := by decide +kernel
theorem dX9_count_91 : decode cX9_count 91 = .ok (.getfield 35, 3) := by decide +kernel
theorem dX9_count_94 : decode cX9_count 94 = .ok (.invokevirtual 201, 3) := by decide +kernel
theorem dX9_count_97 : decode cX9_count 97 = .ok (.invokestatic 203, 3) := by decide +kernel
theorem dX9_count_100 : decode cX9_count 100 = .ok (.ireturn, 1) := by decide +kernel
theorem dX9_count_101 : decode cX9_count 101 = .ok (.aload_n 0, 1) := by decide +kernel
theorem dX9_count_102 : decode cX9_count 102 = .ok (.aload_n 0, 1) := by decide +kernel
theorem dX9_count_103 : decode cX9_count 103 = .ok (.getfield 35, 3) := by decide +kernel
theorem dX9_count_106 : decode cX9_count 106 = .ok (.iconst 5, 1) := by decide +kernel
theorem dX9_count_107 : decode cX9_count 107 = .ok (.iload_n 1, 1) := by decide +kernel
theorem dX9_count_108 : decode cX9_count 108 = .ok (.iadd, 1) := by decide +kernel
theorem dX9_count_109 : decode cX9_count 109 = .ok (.iconst 4, 1) := by decide +kernel
theorem dX9_count_110 : decode cX9_count 110 = .ok (.isub, 1) := by decide +kernel
theorem dX9_count_111 : decode cX9_count 111 = .ok (.invokevirtual 153, 3) := by decide +kernel
theorem dX9_count_114 : decode cX9_count 114 = .ok (.invokestatic 203, 3) := by decide +kernel
theorem dX9_count_117 : decode cX9_count 117 = .ok (.ireturn, 1) := by decide +kernel
theorem dX9_count_118 : decode cX9_count 118 = .ok (.aload_n 0, 1) := by decide +kernel
theorem dX9_count_119 : decode cX9_count 119 = .ok (.aload_n 0, 1) := by decide +kernel
theorem dX9_count_120 : decode cX9_count 120 = .ok (.getfield 35, 3) := by decide +kernel
theorem dX9_count_123 : decode cX9_count 123 = .ok (.invokevirtual 197, 3) := by decide +kernel
theorem dX9_count_126 : decode cX9_count 126 = .ok (.ireturn, 1) := by decide +kernel
theorem dX9_count_127 : decode cX9_count 127 = .ok (.aload_n 0, 1) := by decide +kernel
theorem dX9_count_128 : decode cX9_count 128 = .ok (.getfield 139, 3) := by decide +kernel
theorem dX9_count_131 : decode cX9_count 131 = .ok (.ireturn, 1) := by decide +kernel
theorem dX9_count_132 : decode cX9_count 132 = .ok (.aload_n 0, 1) := by decide +kernel
theorem dX9_count_133 : decode cX9_count 133 = .ok (.getfield 142, 3) := by decide +kernel
theorem dX9_count_136 : decode cX9_count 136 = .ok (.ireturn, 1) := by decide +kernel
theorem dX9_count_137 : decode cX9_count 137 = .ok (.aload_n 0, 1) := by decide +kernel
theorem dX9_count_138 : decode cX9_count 138 = .ok (.getfield 133, 3) := by decide +kernel
theorem dX9_count_141 : decode cX9_count 141 = .ok (.ireturn, 1) := by decide +kernel
theorem dX9_count_142 : decode cX9_count 142 = .ok (.aload_n 0, 1) := by decide +kernel
theorem dX9_count_143 : decode cX9_count 143 = .ok (.getfield 136, 3) := by decide +kernel
theorem dX9_count_146 : decode cX9_count 146 = .ok (.ireturn, 1) := by decide +kernel
theorem dX9_count_147 : decode cX9_count 147 = .ok (.aload_n 0, 1) := by decide +kernel
theorem dX9_count_148 : decode cX9_count 148 = .ok (.getfield 78, 3) := by decide +kernel
theorem dX9_count_151 : decode cX9_count 151 = .ok (.ireturn, 1) := by decide +kernel
theorem dX9_count_152 : decode cX9_count 152 = .ok (.iconst (-1), 1) := by decide +kernel
theorem dX9_count_153 : decode cX9_count 153 = .ok (.ireturn, 1) := by decide +kernel
def f_M_count (N nx : Nat) (D : Dt) (P : Ft) (a0 : Nat) (i1 : Int32) : Option Int32 :=
  if kd nx a0 = 9 then
  if i1 = 0 then
    nn (P a0 2) fun q1 =>
    if ab nx q1 3 0 = true then
    some (D q1 (0 : Int32).toNatClampNeg)
    else none
  else
    if i1 = 1 then
      nn (P a0 3) fun q3 =>
      if ab nx q3 3 0 = true then
      some (D q3 (0 : Int32).toNatClampNeg)
      else none
    else
      if i1 = 2 then
        nn (P a0 11) fun q5 =>
        if ab nx q5 3 0 = true then
        some (D q5 (0 : Int32).toNatClampNeg)
        else none
      else
        if i1 = 3 then
          nn (P a0 11) fun q7 =>
          (f_M_borne N nx D P a0 q7).bind fun z8 =>
          (f_M_bitsOf N nx D P z8).bind fun z9 =>
          some z9
        else
          if i1 = 4 then
            nn (P a0 11) fun q10 =>
            (f_M_those N nx D P a0 q10 ((5 + i1) - 4)).bind fun z11 =>
            (f_M_bitsOf N nx D P z11).bind fun z12 =>
            some z12
          else
            if i1 = 5 then
              nn (P a0 11) fun q13 =>
              (f_M_those N nx D P a0 q13 ((5 + i1) - 4)).bind fun z14 =>
              (f_M_bitsOf N nx D P z14).bind fun z15 =>
              some z15
            else
              if i1 = 6 then
                nn (P a0 11) fun q16 =>
                (f_M_those N nx D P a0 q16 ((5 + i1) - 4)).bind fun z17 =>
                (f_M_bitsOf N nx D P z17).bind fun z18 =>
                some z18
              else
                if i1 = 7 then
                  nn (P a0 11) fun q19 =>
                  (f_M_broken N nx D P a0 q19).bind fun z20 =>
                  some z20
                else
                  if i1 = 8 then
                    some (D a0 22)
                  else
                    if i1 = 9 then
                      some (D a0 24)
                    else
                      if i1 = 10 then
                        some (D a0 13)
                      else
                        if i1 = 11 then
                          some (D a0 15)
                        else
                          if i1 = 12 then
                            some (D a0 1)
                          else
                            some (-1)
  else none
theorem m_M_count : MV yX9_count cX9_count 2 (some .int) 1 := ⟨mT 1226 (by decide +kernel) rfl, mT 1224 (by decide +kernel) rfl, mT 1225 (by decide +kernel) rfl, mT 68 (by decide +kernel) rfl, by decide +kernel, by decide +kernel, by decide +kernel⟩
set_option maxHeartbeats 4000000 in
set_option maxRecDepth 100000 in
theorem c_M_count (l : Launch) (cx : Cx) (nx N : Nat) (D : Dt) (P : Ft) (a0 : Nat) (i1 : Int32) (z : Int32) (h : f_M_count N nx D P a0 i1 = some z) : Ct l cx yX9_count cX9_count 2 (some .int) 5 [.ref (cx.2.2 + a0), .int i1] D P nx (some (.int z)) D P := by
  refine x_met0 (by decide) (Nat.le_of_ble_eq_true rfl) ?_
  intro p e s m args below meth c X
  have X : XC p s m args meth c cx cX9_count 2 (some .int) "HeartPinsModel" "count" := X
  refine XW.sub (lv' := [(0, .ref (cx.2.2 + a0)), (1, .int i1)]) [0, 1] rfl ?_
  unfold f_M_count at h
  obtain ⟨hk0, h⟩ := grd h
  refine x_iload_n (pc := 0) X dX9_count_0 (i := 1) rfl 1 rfl ?_
  by_cases cs1_0 : i1 = 0
  · have h := ite_t cs1_0 h
    refine x_tsw (off := 67) (tgt := 68) (pc := 1) X 0 dX9_count_1 cs1_0 (by decide) (by decide) (by decide) (by decide) ?_
    refine x_aload_n (pc := 68) X dX9_count_68 (i := 0) rfl 0 rfl ?_
    obtain ⟨q1, e1, h⟩ := nns h
    refine x_getr (ci := 9) (k := 2) (n := 26) (C := RX9) (T := TX9) (pc := 69) X dX9_count_69 hk0 rfl (by decide) w_891 rfl e1 ?_
    refine x_iconst (v := 0) (pc := 72) X dX9_count_72 (by decide) ?_
    obtain ⟨g2, h⟩ := grd h
    refine x_iald (pc := 73) X dX9_count_73 g2 ?_
    obtain rfl := Option.some.inj h
    exact x_iret (pc := 74) X dX9_count_74
  · have h := ite_f cs1_0 h
    by_cases cs1_1 : i1 = 1
    · have h := ite_t cs1_1 h
      refine x_tsw (off := 74) (tgt := 75) (pc := 1) X 1 dX9_count_1 cs1_1 (by decide) (by decide) (by decide) (by decide) ?_
      refine x_aload_n (pc := 75) X dX9_count_75 (i := 0) rfl 0 rfl ?_
      obtain ⟨q3, e3, h⟩ := nns h
      refine x_getr (ci := 9) (k := 3) (n := 26) (C := RX9) (T := TX9) (pc := 76) X dX9_count_76 hk0 rfl (by decide) w_892 rfl e3 ?_
      refine x_iconst (v := 0) (pc := 79) X dX9_count_79 (by decide) ?_
      obtain ⟨g4, h⟩ := grd h
      refine x_iald (pc := 80) X dX9_count_80 g4 ?_
      obtain rfl := Option.some.inj h
      exact x_iret (pc := 81) X dX9_count_81
    · have h := ite_f cs1_1 h
      by_cases cs1_2 : i1 = 2
      · have h := ite_t cs1_2 h
        refine x_tsw (off := 81) (tgt := 82) (pc := 1) X 2 dX9_count_1 cs1_2 (by decide) (by decide) (by decide) (by decide) ?_
        refine x_aload_n (pc := 82) X dX9_count_82 (i := 0) rfl 0 rfl ?_
        obtain ⟨q5, e5, h⟩ := nns h
        refine x_getr (ci := 9) (k := 11) (n := 26) (C := RX9) (T := TX9) (pc := 83) X dX9_count_83 hk0 rfl (by decide) w_900 rfl e5 ?_
        refine x_iconst (v := 0) (pc := 86) X dX9_count_86 (by decide) ?_
        obtain ⟨g6, h⟩ := grd h
        refine x_iald (pc := 87) X dX9_count_87 g6 ?_
        obtain rfl := Option.some.inj h
        exact x_iret (pc := 88) X dX9_count_88
      · have h := ite_f cs1_2 h
        by_cases cs1_3 : i1 = 3
        · have h := ite_t cs1_3 h
          refine x_tsw (off := 88) (tgt := 89) (pc := 1) X 3 dX9_count_1 cs1_3 (by decide) (by decide) (by decide) (by decide) ?_
          refine x_aload_n (pc := 89) X dX9_count_89 (i := 0) rfl 0 rfl ?_
          refine x_aload_n (pc := 90) X dX9_count_90 (i := 0) rfl 0 rfl ?_
          obtain ⟨q7, e7, h⟩ := nns h
          refine x_getr (ci := 9) (k := 11) (n := 26) (C := RX9) (T := TX9) (pc := 91) X dX9_count_91 hk0 rfl (by decide) w_900 rfl e7 ?_
          obtain ⟨z8, e8, h⟩ := bnds h
          refine x_callV (pc := 94) (As := [.ref (cx.2.2 + q7)]) (st := []) (st' := [.int z8]) X (c_M_borne l cx nx N D P _ _ z8 e8) dX9_count_94 w_1132 m_M_borne rfl hk0 (ci := 9) rfl rfl ⟨by decide, by decide⟩ ⟨Nat.zero_le _, Nat.zero_le _⟩ rfl (Nat.le_of_ble_eq_true rfl) rfl ?_
          obtain ⟨z9, e9, h⟩ := bnds h
          refine x_callS (pc := 97) (As := [.int z8]) (st := []) (st' := [.int z9]) X (c_M_bitsOf l cx nx N D P _ z9 e9) dX9_count_97 w_1136 m_M_bitsOf rfl ⟨by decide, by decide⟩ ⟨Nat.zero_le _, Nat.zero_le _⟩ rfl (Nat.le_of_ble_eq_true rfl) rfl ?_
          obtain rfl := Option.some.inj h
          exact x_iret (pc := 100) X dX9_count_100
        · have h := ite_f cs1_3 h
          by_cases cs1_4 : i1 = 4
          · have h := ite_t cs1_4 h
            refine x_tsw (off := 100) (tgt := 101) (pc := 1) X 4 dX9_count_1 cs1_4 (by decide) (by decide) (by decide) (by decide) ?_
            refine x_aload_n (pc := 101) X dX9_count_101 (i := 0) rfl 0 rfl ?_
            refine x_aload_n (pc := 102) X dX9_count_102 (i := 0) rfl 0 rfl ?_
            obtain ⟨q10, e10, h⟩ := nns h
            refine x_getr (ci := 9) (k := 11) (n := 26) (C := RX9) (T := TX9) (pc := 103) X dX9_count_103 hk0 rfl (by decide) w_900 rfl e10 ?_
            refine x_iconst (v := 5) (pc := 106) X dX9_count_106 (by decide) ?_
            refine x_iload_n (pc := 107) X dX9_count_107 (i := 1) rfl 1 rfl ?_
            refine x_iadd (pc := 108) X dX9_count_108 ?_
            refine x_iconst (v := 4) (pc := 109) X dX9_count_109 (by decide) ?_
            refine x_isub (pc := 110) X dX9_count_110 ?_
            obtain ⟨z11, e11, h⟩ := bnds h
            refine x_callV (pc := 111) (As := [.ref (cx.2.2 + q10), .int ((5 + i1) - 4)]) (st := []) (st' := [.int z11]) X (c_M_those l cx nx N D P _ _ _ z11 e11) dX9_count_111 w_1035 m_M_those rfl hk0 (ci := 9) rfl rfl ⟨by decide, by decide⟩ ⟨Nat.zero_le _, Nat.zero_le _⟩ rfl (Nat.le_of_ble_eq_true rfl) rfl ?_
            obtain ⟨z12, e12, h⟩ := bnds h
            refine x_callS (pc := 114) (As := [.int z11]) (st := []) (st' := [.int z12]) X (c_M_bitsOf l cx nx N D P _ z12 e12) dX9_count_114 w_1136 m_M_bitsOf rfl ⟨by decide, by decide⟩ ⟨Nat.zero_le _, Nat.zero_le _⟩ rfl (Nat.le_of_ble_eq_true rfl) rfl ?_
            obtain rfl := Option.some.inj h
            exact x_iret (pc := 117) X dX9_count_117
          · have h := ite_f cs1_4 h
            by_cases cs1_5 : i1 = 5
            · have h := ite_t cs1_5 h
              refine x_tsw (off := 100) (tgt := 101) (pc := 1) X 5 dX9_count_1 cs1_5 (by decide) (by decide) (by decide) (by decide) ?_
              refine x_aload_n (pc := 101) X dX9_count_101 (i := 0) rfl 0 rfl ?_
              refine x_aload_n (pc := 102) X dX9_count_102 (i := 0) rfl 0 rfl ?_
              obtain ⟨q13, e13, h⟩ := nns h
              refine x_getr (ci := 9) (k := 11) (n := 26) (C := RX9) (T := TX9) (pc := 103) X dX9_count_103 hk0 rfl (by decide) w_900 rfl e13 ?_
              refine x_iconst (v := 5) (pc := 106) X dX9_count_106 (by decide) ?_
              refine x_iload_n (pc := 107) X dX9_count_107 (i := 1) rfl 1 rfl ?_
              refine x_iadd (pc := 108) X dX9_count_108 ?_
              refine x_iconst (v := 4) (pc := 109) X dX9_count_109 (by decide) ?_
              refine x_isub (pc := 110) X dX9_count_110 ?_
              obtain ⟨z14, e14, h⟩ := bnds h
              refine x_callV (pc := 111) (As := [.ref (cx.2.2 + q13), .int ((5 + i1) - 4)]) (st := []) (st' := [.int z14]) X (c_M_those l cx nx N D P _ _ _ z14 e14) dX9_count_111 w_1035 m_M_those rfl hk0 (ci := 9) rfl rfl ⟨by decide, by decide⟩ ⟨Nat.zero_le _, Nat.zero_le _⟩ rfl (Nat.le_of_ble_eq_true rfl) rfl ?_
              obtain ⟨z15, e15, h⟩ := bnds h
              refine x_callS (pc := 114) (As := [.int z14]) (st := []) (st' := [.int z15]) X (c_M_bitsOf l cx nx N D P _ z15 e15) dX9_count_114 w_1136 m_M_bitsOf rfl ⟨by decide, by decide⟩ ⟨Nat.zero_le _, Nat.zero_le _⟩ rfl (Nat.le_of_ble_eq_true rfl) rfl ?_
              obtain rfl := Option.some.inj h
              exact x_iret (pc := 117) X dX9_count_117
            · have h := ite_f cs1_5 h
              by_cases cs1_6 : i1 = 6
              · have h := ite_t cs1_6 h
                refine x_tsw (off := 100) (tgt := 101) (pc := 1) X 6 dX9_count_1 cs1_6 (by decide) (by decide) (by decide) (by decide) ?_
                refine x_aload_n (pc := 101) X dX9_count_101 (i := 0) rfl 0 rfl ?_
                refine x_aload_n (pc := 102) X dX9_count_102 (i := 0) rfl 0 rfl ?_
                obtain ⟨q16, e16, h⟩ := nns h
                refine x_getr (ci := 9) (k := 11) (n := 26) (C := RX9) (T := TX9) (pc := 103) X dX9_count_103 hk0 rfl (by decide) w_900 rfl e16 ?_
                refine x_iconst (v := 5) (pc := 106) X dX9_count_106 (by decide) ?_
                refine x_iload_n (pc := 107) X dX9_count_107 (i := 1) rfl 1 rfl ?_
                refine x_iadd (pc := 108) X dX9_count_108 ?_
                refine x_iconst (v := 4) (pc := 109) X dX9_count_109 (by decide) ?_
                refine x_isub (pc := 110) X dX9_count_110 ?_
                obtain ⟨z17, e17, h⟩ := bnds h
                refine x_callV (pc := 111) (As := [.ref (cx.2.2 + q16), .int ((5 + i1) - 4)]) (st := []) (st' := [.int z17]) X (c_M_those l cx nx N D P _ _ _ z17 e17) dX9_count_111 w_1035 m_M_those rfl hk0 (ci := 9) rfl rfl ⟨by decide, by decide⟩ ⟨Nat.zero_le _, Nat.zero_le _⟩ rfl (Nat.le_of_ble_eq_true rfl) rfl ?_
                obtain ⟨z18, e18, h⟩ := bnds h
                refine x_callS (pc := 114) (As := [.int z17]) (st := []) (st' := [.int z18]) X (c_M_bitsOf l cx nx N D P _ z18 e18) dX9_count_114 w_1136 m_M_bitsOf rfl ⟨by decide, by decide⟩ ⟨Nat.zero_le _, Nat.zero_le _⟩ rfl (Nat.le_of_ble_eq_true rfl) rfl ?_
                obtain rfl := Option.some.inj h
                exact x_iret (pc := 117) X dX9_count_117
              · have h := ite_f cs1_6 h
                by_cases cs1_7 : i1 = 7
                · have h := ite_t cs1_7 h
                  refine x_tsw (off := 117) (tgt := 118) (pc := 1) X 7 dX9_count_1 cs1_7 (by decide) (by decide) (by decide) (by decide) ?_
                  refine x_aload_n (pc := 118) X dX9_count_118 (i := 0) rfl 0 rfl ?_
                  refine x_aload_n (pc := 119) X dX9_count_119 (i := 0) rfl 0 rfl ?_
                  obtain ⟨q19, e19, h⟩ := nns h
                  refine x_getr (ci := 9) (k := 11) (n := 26) (C := RX9) (T := TX9) (pc := 120) X dX9_count_120 hk0 rfl (by decide) w_900 rfl e19 ?_
                  obtain ⟨z20, e20, h⟩ := bnds h
                  refine x_callV (pc := 123) (As := [.ref (cx.2.2 + q19)]) (st := []) (st' := [.int z20]) X (c_M_broken l cx nx N D P _ _ z20 e20) dX9_count_123 w_1143 m_M_broken rfl hk0 (ci := 9) rfl rfl ⟨by decide, by decide⟩ ⟨Nat.zero_le _, Nat.zero_le _⟩ rfl (Nat.le_of_ble_eq_true rfl) rfl ?_
                  obtain rfl := Option.some.inj h
                  exact x_iret (pc := 126) X dX9_count_126
                · have h := ite_f cs1_7 h
                  by_cases cs1_8 : i1 = 8
                  · have h := ite_t cs1_8 h
                    refine x_tsw (off := 126) (tgt := 127) (pc := 1) X 8 dX9_count_1 cs1_8 (by decide) (by decide) (by decide) (by decide) ?_
                    refine x_aload_n (pc := 127) X dX9_count_127 (i := 0) rfl 0 rfl ?_
                    refine x_geti (ci := 9) (k := 22) (n := 26) (C := RX9) (T := TX9) (pc := 128) X dX9_count_128 hk0 rfl (by decide) w_911 rfl ?_
                    obtain rfl := Option.some.inj h
                    exact x_iret (pc := 131) X dX9_count_131
                  · have h := ite_f cs1_8 h
                    by_cases cs1_9 : i1 = 9
                    · have h := ite_t cs1_9 h
                      refine x_tsw (off := 131) (tgt := 132) (pc := 1) X 9 dX9_count_1 cs1_9 (by decide) (by decide) (by decide) (by decide) ?_
                      refine x_aload_n (pc := 132) X dX9_count_132 (i := 0) rfl 0 rfl ?_
                      refine x_geti (ci := 9) (k := 24) (n := 26) (C := RX9) (T := TX9) (pc := 133) X dX9_count_133 hk0 rfl (by decide) w_913 rfl ?_
                      obtain rfl := Option.some.inj h
                      exact x_iret (pc := 136) X dX9_count_136
                    · have h := ite_f cs1_9 h
                      by_cases cs1_10 : i1 = 10
                      · have h := ite_t cs1_10 h
                        refine x_tsw (off := 136) (tgt := 137) (pc := 1) X 10 dX9_count_1 cs1_10 (by decide) (by decide) (by decide) (by decide) ?_
                        refine x_aload_n (pc := 137) X dX9_count_137 (i := 0) rfl 0 rfl ?_
                        refine x_geti (ci := 9) (k := 13) (n := 26) (C := RX9) (T := TX9) (pc := 138) X dX9_count_138 hk0 rfl (by decide) w_902 rfl ?_
                        obtain rfl := Option.some.inj h
                        exact x_iret (pc := 141) X dX9_count_141
                      · have h := ite_f cs1_10 h
                        by_cases cs1_11 : i1 = 11
                        · have h := ite_t cs1_11 h
                          refine x_tsw (off := 141) (tgt := 142) (pc := 1) X 11 dX9_count_1 cs1_11 (by decide) (by decide) (by decide) (by decide) ?_
                          refine x_aload_n (pc := 142) X dX9_count_142 (i := 0) rfl 0 rfl ?_
                          refine x_geti (ci := 9) (k := 15) (n := 26) (C := RX9) (T := TX9) (pc := 143) X dX9_count_143 hk0 rfl (by decide) w_904 rfl ?_
                          obtain rfl := Option.some.inj h
                          exact x_iret (pc := 146) X dX9_count_146
                        · have h := ite_f cs1_11 h
                          by_cases cs1_12 : i1 = 12
                          · have h := ite_t cs1_12 h
                            refine x_tsw (off := 146) (tgt := 147) (pc := 1) X 12 dX9_count_1 cs1_12 (by decide) (by decide) (by decide) (by decide) ?_
                            refine x_aload_n (pc := 147) X dX9_count_147 (i := 0) rfl 0 rfl ?_
                            refine x_geti (ci := 9) (k := 1) (n := 26) (C := RX9) (T := TX9) (pc := 148) X dX9_count_148 hk0 rfl (by decide) w_890 rfl ?_
                            obtain rfl := Option.some.inj h
                            exact x_iret (pc := 151) X dX9_count_151
                          · have h := ite_f cs1_12 h
                            refine x_tswd (tgt := 152) (pc := 1) X dX9_count_1 (sw_outg (lo := 0) (n := 13) (by decide) (by decide) rfl (fun k hk => ?_)) (by decide) ?_
                            · rcases (show k = 0 ∨ k = 1 ∨ k = 2 ∨ k = 3 ∨ k = 4 ∨ k = 5 ∨ k = 6 ∨ k = 7 ∨ k = 8 ∨ k = 9 ∨ k = 10 ∨ k = 11 ∨ k = 12 by omega) with rfl | rfl | rfl | rfl | rfl | rfl | rfl | rfl | rfl | rfl | rfl | rfl | rfl
                              · exact fun y => cs1_0 (y.trans (by decide))
                              · exact fun y => cs1_1 (y.trans (by decide))
                              · exact fun y => cs1_2 (y.trans (by decide))
                              · exact fun y => cs1_3 (y.trans (by decide))
                              · exact fun y => cs1_4 (y.trans (by decide))
                              · exact fun y => cs1_5 (y.trans (by decide))
                              · exact fun y => cs1_6 (y.trans (by decide))
                              · exact fun y => cs1_7 (y.trans (by decide))
                              · exact fun y => cs1_8 (y.trans (by decide))
                              · exact fun y => cs1_9 (y.trans (by decide))
                              · exact fun y => cs1_10 (y.trans (by decide))
                              · exact fun y => cs1_11 (y.trans (by decide))
                              · exact fun y => cs1_12 (y.trans (by decide))
                            · refine x_iconst (v := (-1)) (pc := 152) X dX9_count_152 (by decide) ?_
                              obtain rfl := Option.some.inj h
                              exact x_iret (pc := 153) X dX9_count_153
